import java.util.ArrayList;
import java.util.Arrays;
import java.util.HashSet;
import java.util.List;
import java.util.Set;

/** The document once more, as plainly as can be and with other means, to compare with; it only answers what is in bounds. */
final class PlainTown {
    static final int[][] STEPS = {{0, 0}, {0, -1}, {1, 0}, {0, 1}, {-1, 0}};

    int w, h, law, lasting = 3, minutes, frozen;
    long seed;
    int[][] heat = new int[0][0];
    int[][] owner = new int[0][0];
    Set<String> walls = new HashSet<>();
    Set<String> roofs = new HashSet<>();
    List<int[]> stoves = new ArrayList<>(); // x, y, S, wood, burns
    List<Integer> sun = new ArrayList<>();
    List<int[]> people = new ArrayList<>(); // x, y, skin, T, fever, owes, due, partners
    List<Set<String>> felt = new ArrayList<>(); // for each minute who felt where
    List<int[]> claims = new ArrayList<>();
    List<int[]> deeds = new ArrayList<>();
    int faultAt = -1;
    int faultKind = 0;

    // ---- copies

    PlainTown copy() {
        PlainTown c = new PlainTown();
        c.w = w;
        c.h = h;
        c.law = law;
        c.lasting = lasting;
        c.minutes = minutes;
        c.frozen = frozen;
        c.seed = seed;
        c.heat = deep(heat);
        c.owner = deep(owner);
        c.walls = new HashSet<>(walls);
        c.roofs = roofs;
        c.sun = sun;
        for (int[] s : stoves) {
            c.stoves.add(s.clone());
        }
        for (int[] p : people) {
            c.people.add(p.clone());
        }
        c.felt = new ArrayList<>(felt);
        c.claims = new ArrayList<>(claims);
        c.deeds = new ArrayList<>(deeds);
        return c;
    }

    private static int[][] deep(int[][] rows) {
        int[][] made = new int[rows.length][];
        for (int i = 0; i < rows.length; i++) {
            made[i] = rows[i].clone();
        }
        return made;
    }

    // ---- the text

    private static final class Fault extends RuntimeException {
        private static final long serialVersionUID = 1L;
        final int kind, at;

        Fault(int kind, int at) {
            super("fault", null, false, false);
            this.kind = kind;
            this.at = at;
        }
    }

    /** Tokens: {start, value or letter, figures}; figures 0 for a sign, -1 for the end. */
    private static List<int[]> tokens(String text) {
        List<int[]> made = new ArrayList<>();
        int i = 0;
        while (i < text.length()) {
            char c = text.charAt(i);
            if (c == ' ') {
                i++;
            } else if (c >= '0' && c <= '9') {
                int end = i;
                while (end < text.length() && text.charAt(end) >= '0' && text.charAt(end) <= '9') {
                    end++;
                }
                made.add(new int[] {i, end - i > 3 ? 9999 : Integer.parseInt(text.substring(i, end)), end - i});
                i = end;
            } else {
                made.add(new int[] {i, c, 0});
                i++;
            }
        }
        made.add(new int[] {text.length(), -1, -1});
        return made;
    }

    private List<int[]> tokens;
    private int next;

    /** A town of that text; its faultKind is not 0 if it has a fault. */
    static PlainTown told(String text) {
        PlainTown made = new PlainTown();
        made.tokens = tokens(text);
        try {
            while (made.tokens.get(made.next)[2] != -1) {
                made.clause(made.tokens.get(made.next++));
            }
        } catch (Fault f) {
            made.faultKind = f.kind;
            made.faultAt = f.at;
        }
        return made;
    }

    private int[] number(int least, int most) {
        int[] token = tokens.get(next);
        if (token[2] <= 0) {
            throw new Fault(1, token[0]);
        }
        if (token[2] > 3 || token[1] < least || token[1] > most) {
            throw new Fault(2, token[0]);
        }
        next++;
        return token;
    }

    private void sign(char c) {
        int[] token = tokens.get(next);
        if (token[2] != 0 || token[1] != c) {
            throw new Fault(1, token[0]);
        }
        next++;
    }

    private void clause(int[] word) {
        if (word[2] != 0 || "tworsp".indexOf((char) word[1]) < 0 || (w == 0 && word[1] != 't')) {
            throw new Fault(1, word[0]);
        }
        char c = (char) word[1];
        boolean many = c == 't' && w > 0 || c == 's' && !sun.isEmpty() || c == 'w' && walls.size() == 12
                || c == 'r' && roofs.size() == 12 || c == 'o' && stoves.size() == 4 || c == 'p' && people.size() == 6;
        if (many) {
            throw new Fault(3, word[0]);
        }
        if (c == 't') {
            townClause();
        } else if (c == 's') {
            sunClause();
        } else {
            cellClause(c, number(0, w - 1)[1]);
        }
    }

    private void townClause() {
        int wide = number(1, 6)[1];
        int[] high = number(1, 6);
        if (wide * high[1] > 20) {
            throw new Fault(2, high[0]);
        }
        int b = number(0, 200)[1];
        sign(';');
        w = wide;
        h = high[1];
        heat = new int[h][w];
        owner = new int[h][w];
        for (int y = 0; y < h; y++) {
            Arrays.fill(heat[y], b);
            Arrays.fill(owner[y], -1);
        }
    }

    private void sunClause() {
        sun.add(number(0, 30)[1]);
        while (tokens.get(next)[2] == 0 && tokens.get(next)[1] == ',') {
            if (sun.size() == 8) {
                throw new Fault(1, tokens.get(next)[0]);
            }
            next++;
            sun.add(number(0, 30)[1]);
        }
        sign(';');
    }

    private void cellClause(char c, int x) {
        int[] second = number(0, h - 1);
        int y = second[1];
        if (c == 'r') {
            if (!roofs.add(x + " " + y)) {
                throw new Fault(4, second[0]);
            }
        } else if (c == 'o') {
            if (stoves.stream().anyMatch(s -> s[0] == x && s[1] == y)) {
                throw new Fault(4, second[0]);
            }
            stoves.add(new int[] {x, y, number(1, 60)[1], number(0, 99)[1], 0});
        } else if (c == 'p') {
            people.add(new int[] {x, y, number(0, 300)[1], number(1, 60)[1], number(0, 9)[1], 0, 0, 0});
        } else {
            int[] third = number(0, 1);
            if (third[1] == 0 ? x == w - 1 : y == h - 1) {
                throw new Fault(2, third[0]);
            }
            if (!walls.add(x + " " + y + " " + third[1])) {
                throw new Fault(4, third[0]);
            }
        }
        sign(';');
    }

    // ---- where what is

    boolean isCell(int x, int y) {
        return x >= 0 && y >= 0 && x < w && y < h;
    }

    boolean isOpen(int x, int y, int way) {
        int tx = x + STEPS[way][0];
        int ty = y + STEPS[way][1];
        if (!isCell(tx, ty)) {
            return false;
        }
        String wall = way == 1 ? tx + " " + ty + " 1" : way == 4 ? tx + " " + ty + " 0"
                : way == 2 ? x + " " + y + " 0" : x + " " + y + " 1";
        return way == 0 || !walls.contains(wall);
    }

    boolean step(int p, int way) {
        int[] who = people.get(p);
        if (!isOpen(who[0], who[1], way)) {
            return false;
        }
        who[0] += STEPS[way][0];
        who[1] += STEPS[way][1];
        return true;
    }

    int owned(int p) {
        int count = 0;
        for (int[] row : owner) {
            for (int o : row) {
                count += o == p ? 1 : 0;
            }
        }
        return count;
    }

    int sunNow() {
        return sun.isEmpty() ? 0 : sun.get(minutes / 6 % sun.size());
    }

    private boolean dear(int p, int x, int y) {
        int o = owner[y][x];
        return heat[y][x] >= 50 && o != -1 && o != p && (people.get(p)[7] & 1 << o) == 0;
    }

    // ---- minutes

    void pass(int n, int numb) {
        for (int i = 0; i < n; i++) {
            pass(numb);
        }
    }

    private void pass(int numb) {
        int[][] warm = new int[h][w];
        for (int y = 0; y < h; y++) {
            for (int x = 0; x < w; x++) {
                warm[y][x] = heatBehind(x, y);
            }
        }
        heat = warm;
        for (int[] s : stoves) {
            if (s[4] == 1 && --s[3] == 0) {
                s[4] = 0;
            }
        }
        Set<String> feel = new HashSet<>();
        for (int p = 0; p < people.size(); p++) {
            int[] who = people.get(p);
            if (p != numb && heat[who[1]][who[0]] >= who[2] + who[3]) {
                feel.add(p + " " + who[0] + " " + who[1]);
            }
        }
        felt.add(feel);
        for (int y = 0; y < h; y++) {
            for (int x = 0; x < w; x++) {
                own(x, y, feel);
            }
        }
        if (law == 3) {
            share(feel);
        }
        for (int p = 0; p < people.size(); p++) {
            int[] who = people.get(p);
            if (dear(p, who[0], who[1])) {
                who[5]++;
                people.get(owner[who[1]][who[0]])[6]++;
            }
            who[2] += (heat[who[1]][who[0]] - who[2]) / 4;
            frozen |= who[2] < 20 ? 1 << p : 0;
        }
        minutes++;
    }

    private int heatBehind(int x, int y) {
        int sum = heat[y][x];
        for (int way = 1; way <= 4; way++) {
            if (isOpen(x, y, way)) {
                sum += (heat[y + STEPS[way][1]][x + STEPS[way][0]] - heat[y][x]) / 8;
            }
        }
        for (int[] s : stoves) {
            sum += s[4] == 1 && s[0] == x && s[1] == y ? s[2] : 0;
        }
        sum += roofs.contains(x + " " + y) ? 0 : sunNow();
        for (int[] who : people) {
            sum += who[0] == x && who[1] == y ? who[4] : 0;
        }
        sum -= sum / 50;
        return Math.min(sum, 999);
    }

    /** (c), and (d) for the laws by which owning ends. */
    private void own(int x, int y, Set<String> feel) {
        if (owner[y][x] == -1) {
            int least = Integer.MAX_VALUE;
            for (int p = 0; p < people.size(); p++) {
                if (feel.contains(p + " " + x + " " + y) && people.get(p)[2] < least) {
                    least = people.get(p)[2];
                    owner[y][x] = p;
                }
            }
        }
        int o = owner[y][x];
        if (o != -1 && law == 1) {
            boolean lasts = false;
            for (int t = Math.max(0, minutes - lasting); t <= minutes; t++) {
                lasts |= felt.get(t).contains(o + " " + x + " " + y);
            }
            owner[y][x] = lasts ? o : -1;
        }
        if (o != -1 && law == 2 && (people.get(o)[0] != x || people.get(o)[1] != y)) {
            owner[y][x] = -1;
        }
    }

    private void share(Set<String> feel) {
        for (int p = 0; p < people.size(); p++) {
            int[] who = people.get(p);
            int o = owner[who[1]][who[0]];
            if (o != -1 && o != p && feel.contains(p + " " + who[0] + " " + who[1])) {
                who[7] |= 1 << o;
                people.get(o)[7] |= 1 << p;
            }
        }
    }

    private int draw(int n) {
        seed = (seed * 1103515245L + 12345L) % 2147483648L;
        return (int) (seed / 65536 % n);
    }

    void drift(int n) {
        for (int i = 0; i < n; i++) {
            for (int p = 0; p < people.size(); p++) {
                step(p, draw(5));
            }
            if (draw(20) == 0 && !stoves.isEmpty()) {
                int[] s = stoves.get(draw(stoves.size()));
                s[4] = s[3] > 0 ? 1 : s[4];
            }
            pass(1, -1);
        }
    }

    // ---- tried

    /** All rows, one behind the other, each from now on: {cells, ways ..}. */
    int[] stands(int p, int n) {
        int rows = 1;
        for (int i = 0; i < n; i++) {
            rows *= 5;
        }
        int[] best = new int[n + 1];
        best[0] = -1;
        for (int row = 0; row < rows; row++) {
            int[] ways = new int[n];
            int left = row;
            for (int i = n - 1; i >= 0; i--) {
                ways[i] = left % 5;
                left /= 5;
            }
            int cells = walk(p, ways);
            if (cells > best[0]) {
                best[0] = cells;
                System.arraycopy(ways, 0, best, 1, n);
            }
        }
        return best;
    }

    private int walk(int p, int[] ways) {
        PlainTown t = copy();
        for (int way : ways) {
            if (!t.step(p, way)) {
                return -1;
            }
            t.pass(1, -1);
        }
        return t.owned(p);
    }

    /** What is so behind n minutes, stove k being lit behind wait of them. */
    private PlainTown litBehind(int k, int wait, int n, int numb) {
        PlainTown t = copy();
        t.pass(Math.min(wait, n), numb);
        if (wait <= n) {
            t.stoves.get(k)[4] = 1;
            t.pass(n - wait, numb);
        }
        return t;
    }

    private int ownerOfStove(int k) {
        return owner[stoves.get(k)[1]][stoves.get(k)[0]];
    }

    int lightFor(int p, int k, int n) {
        for (int wait = 0; wait <= n; wait++) {
            if (litBehind(k, wait, n, -1).ownerOfStove(k) == p) {
                return wait;
            }
        }
        return -1;
    }

    int keptOut(int p, int k, int n) {
        int answer = -1;
        for (int q = people.size() - 1; q >= 0; q--) {
            if (q != p && litBehind(k, 0, n, q).ownerOfStove(k) == p) {
                answer = q;
            }
        }
        return litBehind(k, 0, n, -1).ownerOfStove(k) == p ? -1 : answer;
    }

    int gain(int p, int x, int y, int d, int n) {
        PlainTown with = copy();
        with.walls.add(x + " " + y + " " + d);
        with.pass(n, -1);
        PlainTown without = copy();
        without.walls.remove(x + " " + y + " " + d);
        without.pass(n, -1);
        return with.owned(p) - without.owned(p);
    }

    /** {rounds, what each asks ..}. */
    int[] rents() {
        int[] asks = new int[people.size()];
        int changing = 0;
        for (int round = 1; round <= 20; round++) {
            int[] before = asks.clone();
            for (int p = 0; p < asks.length; p++) {
                int most = -1;
                int best = 0;
                for (int rent = 0; rent <= 9; rent++) {
                    asks[p] = rent;
                    if (income(p, asks) > most) {
                        most = income(p, asks);
                        best = rent;
                    }
                }
                asks[p] = best;
            }
            if (Arrays.equals(before, asks)) {
                break;
            }
            changing++;
        }
        int[] answer = new int[asks.length + 1];
        answer[0] = changing == 20 ? -1 : changing;
        for (int p = 0; p < asks.length; p++) {
            answer[p + 1] = changing == 20 ? -1 : asks[p];
        }
        return answer;
    }

    private int income(int p, int[] asks) {
        int sum = 0;
        for (int y = 0; y < h; y++) {
            for (int x = 0; x < w; x++) {
                boolean let = owner[y][x] == p && asks[p] <= heat[y][x] / 50;
                for (int way = 1; way <= 4 && let; way++) {
                    if (isOpen(x, y, way)) {
                        int o = owner[y + STEPS[way][1]][x + STEPS[way][0]];
                        let = o == -1 || o == p || asks[o] >= asks[p];
                    }
                }
                sum += let ? asks[p] : 0;
            }
        }
        return sum;
    }

    int forged() {
        int set = 0;
        PlainTown t = copy();
        t.pass(60, -1);
        for (int i = 0; i < claims.size(); i++) {
            int[] c = claims.get(i);
            if (!t.felt.get(minutes + c[2]).contains(c[0] + " " + c[1] / 10 + " " + c[1] % 10)) {
                set |= 1 << i;
            }
        }
        return set;
    }

    int cold(int v, int n) {
        PlainTown t = copy();
        t.law = v;
        t.frozen = 0;
        for (int i = 0; i < n; i++) {
            for (int p = 0; p < t.people.size(); p++) {
                t.leave(p);
            }
            t.pass(1, -1);
        }
        return Integer.bitCount(t.frozen);
    }

    private void leave(int p) {
        int x = people.get(p)[0];
        int y = people.get(p)[1];
        if (!dear(p, x, y)) {
            return;
        }
        for (int way = 1; way <= 4; way++) {
            if (isOpen(x, y, way) && !dear(p, x + STEPS[way][0], y + STEPS[way][1])) {
                step(p, way);
                return;
            }
        }
    }

    int mildest(int n) {
        int best = 3;
        for (int v = 2; v >= 0; v--) {
            best = cold(v, n) <= cold(best, n) ? v : best;
        }
        return best;
    }

    List<Integer> wasLit(int k) {
        List<Integer> fitting = new ArrayList<>();
        for (int wait = 0; wait < 60; wait++) {
            boolean fits = true;
            for (int[] d : deeds) {
                PlainTown t = litBehind(k, wait, d[2], -1);
                fits &= t.owner[d[1] % 10][d[1] / 10] == d[0];
            }
            if (fits) {
                fitting.add(wait);
            }
        }
        return fitting;
    }
}
