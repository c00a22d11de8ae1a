import java.util.List;
import java.util.Random;

/** Random runs of calls, each answer compared with PlainTown's; the seeds are fixed, so that each run is the same again. */
public final class ModelTest {
    private static final int U = Check.UNKNOWN;
    private static final int O = Check.OUTSIDE;

    private final Random random;
    private final FirstFelt x = new FirstFelt();
    private PlainTown plain = new PlainTown();
    private final PlainTown[] images = new PlainTown[2];
    private int calls = 0;
    /** Small and cool towns, in which people meet, freeze and feel the same stove. */
    private final boolean close;

    private ModelTest(long seed) {
        random = new Random(seed);
        close = random.nextInt(3) != 0;
    }

    public static void main(String[] args) {
        int runs = args.length > 0 ? Integer.parseInt(args[0]) : 1500;
        for (int seed = 0; seed < runs; seed++) {
            new ModelTest(seed).run();
        }
        for (String text : new String[] {"t3 2 40;w0 0 0;o0 0 50 12;r1 1;s4,0;p0 1 30 20 3;", " t 5 4 0 ; s1,2,3,4,5,6,7 , 8 ; "}) {
            everyLetterAtEveryPlace(text);
        }
        Check.end("ModelTest");
    }

    /** A text up to each of its letters, and with each letter there is in its stead and ahead of it. */
    private static void everyLetterAtEveryPlace(String text) {
        for (int at = 0; at <= text.length(); at++) {
            String ahead = text.substring(0, at);
            compareText(ahead);
            for (int letter = 0; letter <= 255; letter++) {
                compareText(ahead + (char) letter + text.substring(at));
                compareText(ahead + (char) letter + text.substring(Math.min(text.length(), at + 1)));
            }
        }
    }

    private static void compareText(String text) {
        FirstFelt made = new FirstFelt();
        Check.feedAll(made, text);
        PlainTown due = PlainTown.told(text);
        Check.due("town \"" + text + "\"", made.town(), due.faultKind == 0 ? due.w * due.h : -10 - due.faultKind);
        Check.due("fault \"" + text + "\"", made.fault(), due.faultAt);
        boolean good = due.faultKind == 0;
        int[] tolds = {due.w, due.h, due.walls.size(), due.stoves.size(), due.roofs.size(), due.sun.size(), due.people.size()};
        for (int what = 0; what < tolds.length; what++) {
            Check.due("told " + what + " of \"" + text + "\"", made.told(what), good ? tolds[what] : 0);
        }
    }

    private void run() {
        if (random.nextInt(4) == 0) {
            brokenTown();
        }
        newTown(randomText());
        for (int i = 0; i < 120 && calls < 400; i++) {
            if (random.nextInt(150) == 0) {
                newTown(random.nextBoolean() ? randomText() : broken(randomText()));
            }
            if (random.nextInt(3) == 0) {
                tried();
            } else {
                done();
            }
            if (i % 10 == 0) {
                compareAll();
            }
        }
        compareAll();
    }

    private void due(String what, long got, long want) {
        calls++;
        Check.due("run: " + what, got, want);
    }

    // ---- texts

    private int in(int least, int most) {
        return least + random.nextInt(most - least + 1);
    }

    /** Now and then one of the edges or one beyond them. */
    private int about(int least, int most) {
        int kind = random.nextInt(20);
        return kind == 0 ? least - 1 : kind == 1 ? most + 1 : kind == 2 ? least : kind == 3 ? most : in(least, most);
    }

    private String randomText() {
        StringBuilder text = new StringBuilder();
        int w = in(1, close ? 3 : 5);
        int h = in(1, close ? 2 : Math.min(6, 20 / w));
        text.append('t').append(w).append(' ').append(h).append(' ').append(in(0, close ? 60 : 200)).append(';');
        int clauses = close ? 14 : in(0, 16);
        for (int i = 0; i < clauses; i++) {
            String more = randomClause(w, h);
            if (text.length() + more.length() <= 260 && PlainTown.told(text + more).faultKind == 0) {
                text.append(more);
            }
        }
        return text.toString();
    }

    private String randomClause(int w, int h) {
        String c = in(0, w - 1) + " " + in(0, h - 1);
        switch (in(0, 8)) {
            case 0: case 1: return "w" + c + " " + in(0, 1) + ";";
            case 2: case 3: return "o" + c + " " + in(1, 60) + " " + in(0, 99) + ";";
            case 4: return "r" + c + ";";
            case 5: return random.nextBoolean() ? "s" + in(0, 30) + "," + in(0, 30) + "," + in(0, 9) + ";" : "s" + in(0, close ? 3 : 30) + ";";
            default: return "p" + c + " " + in(0, close ? 60 : 300) + " " + in(1, 60) + " " + in(0, close ? 2 : 9) + ";";
        }
    }

    private String broken(String text) {
        StringBuilder made = new StringBuilder(text);
        int changes = in(1, 3);
        for (int i = 0; i < changes; i++) {
            int at = random.nextInt(made.length() + 1);
            char c = "tworsp0123456789,;   x".charAt(random.nextInt(22));
            int kind = random.nextInt(4);
            if (kind == 0 && at < made.length()) {
                made.deleteCharAt(at);
            } else if (kind == 1 && at < made.length()) {
                made.setCharAt(at, c);
            } else if (kind == 2 && random.nextInt(4) == 0) {
                made.setLength(at);
            } else if (made.length() < 260) {
                made.insert(at, c);
            }
        }
        return made.toString();
    }

    private void newTown(String text) {
        for (int i = 0; i < text.length(); i++) {
            due("feed", x.feed(text.charAt(i)), i + 1);
        }
        calls -= text.length();
        PlainTown made = PlainTown.told(text);
        due("town \"" + text + "\"", x.town(), made.faultKind == 0 ? made.w * made.h : -10 - made.faultKind);
        due("fault \"" + text + "\"", x.fault(), made.faultAt);
        if (made.faultKind == 0) {
            made.seed = plain.seed;
            plain = made;
            images[0] = null;
            images[1] = null;
        }
    }

    private void brokenTown() {
        for (int i = 0; i < 30; i++) {
            newTown(broken(randomText()));
        }
        calls = 0;
    }

    // ---- what is done

    private boolean person(int p) {
        return p >= 0 && p < plain.people.size();
    }

    private boolean stove(int k) {
        return k >= 0 && k < plain.stoves.size();
    }

    private boolean outside(int v, int least, int most) {
        return v < least || v > most;
    }

    private int somebody() {
        return about(0, Math.max(0, plain.people.size() - 1));
    }

    private int someStove() {
        return about(0, Math.max(0, plain.stoves.size() - 1));
    }

    private boolean canBeLit(int k) {
        return plain.stoves.get(k)[4] == 0 && plain.stoves.get(k)[3] > 0;
    }

    private void done() {
        switch (in(0, 9)) {
            case 0: case 1: case 2: go(somebody(), about(1, 4)); break;
            case 3: build(about(0, plain.w), about(0, plain.h), about(0, 1)); break;
            case 4: light(someStove()); break;
            case 5: stoke(someStove(), about(1, 99)); break;
            case 6: rules(); break;
            case 7: case 8: minutes(about(1, random.nextInt(8) != 0 ? 2 : 60)); break;
            default: imagesAndSeed(about(0, 1)); break;
        }
    }

    private void go(int p, int way) {
        int want = !person(p) ? U : outside(way, 1, 4) ? O : !plain.step(p, way) ? Check.NOT
                : plain.people.get(p)[0] * 10 + plain.people.get(p)[1];
        due("go", x.go(p, way), want);
    }

    private int wallRefusal(int cx, int cy, int d) {
        return !plain.isCell(cx, cy) ? U : outside(d, 0, 1) ? O
                : !plain.isCell(cx + (d == 0 ? 1 : 0), cy + (d == 1 ? 1 : 0)) ? U : 0;
    }

    private void build(int cx, int cy, int d) {
        String name = cx + " " + cy + " " + d;
        boolean is = random.nextInt(3) != 0;
        int want = wallRefusal(cx, cy, d);
        due("wall", x.wall(cx, cy, d), want != 0 ? want : plain.walls.contains(name) ? 1 : 0);
        if (want == 0) {
            want = plain.walls.contains(name) ? 1 : 0;
            if (is) {
                plain.walls.add(name);
            } else {
                plain.walls.remove(name);
            }
        }
        due("build", x.build(cx, cy, d, is), want);
    }

    private void light(int k) {
        int want = !stove(k) ? U : !canBeLit(k) ? Check.NOT : plain.stoves.get(k)[3];
        if (want > 0) {
            plain.stoves.get(k)[4] = 1;
        }
        due("light", x.light(k), want);
    }

    private void stoke(int k, int f) {
        int want = !stove(k) ? U : outside(f, 1, 99) ? O : Math.min(999, plain.stoves.get(k)[3] + f);
        if (want > 0) {
            plain.stoves.get(k)[3] = want;
        }
        due("stoke", x.stoke(k, f), want);
    }

    private void rules() {
        int v = about(0, 3);
        due("law", x.law(v), outside(v, 0, 3) ? O : plain.law);
        plain.law = outside(v, 0, 3) ? plain.law : v;
        int l = about(1, random.nextBoolean() ? 3 : 20);
        due("last", x.last(l), outside(l, 1, 20) ? O : plain.lasting);
        plain.lasting = outside(l, 1, 20) ? plain.lasting : l;
    }

    private void minutes(int n) {
        boolean drawn = random.nextInt(3) == 0;
        boolean may = !outside(n, 1, 60) && plain.w > 0;
        if (may && drawn) {
            plain.drift(n);
        } else if (may) {
            plain.pass(n, -1);
        }
        due(drawn ? "drift" : "minute", drawn ? x.drift(n) : x.minute(n), may ? plain.minutes : outside(n, 1, 60) ? O : Check.NOT);
    }

    private void imagesAndSeed(int i) {
        int kind = random.nextInt(3);
        boolean known = i == 0 || i == 1;
        if (kind == 0) {
            due("keep", x.keep(i), known ? 1 : U);
            if (known) {
                images[i] = plain.copy();
            }
        } else if (kind == 1) {
            due("goBack", x.goBack(i), !known ? U : images[i] == null ? Check.NOT : 1);
            if (known && images[i] != null) {
                List<int[]> claims = plain.claims;
                List<int[]> deeds = plain.deeds;
                plain = images[i].copy();
                plain.claims = claims;
                plain.deeds = deeds;
            }
        } else {
            int v = random.nextInt();
            due("seed", x.seed(v), v < 0 ? O : plain.seed);
            plain.seed = v < 0 ? plain.seed : v;
        }
    }

    // ---- tried

    private void tried() {
        switch (in(0, 13)) {
            case 0: case 1: then(about(0, plain.w), about(0, plain.h), about(1, 60), about(0, 1)); break;
            case 2: stands(somebody(), random.nextInt(8) == 0 ? about(1, 5) : about(1, 3)); break;
            case 3: case 4: lighting(somebody(), someStove(), about(1, 30)); break;
            case 5: gain(somebody(), about(0, plain.w), about(0, plain.h)); break;
            case 6: case 7: rents(); break;
            case 8: claim(somebody(), pair(), random.nextBoolean() ? about(0, 5) : about(0, 59)); break;
            case 9: due("forged", x.forged(), plain.forged()); break;
            case 10: cold(about(0, 3), about(1, 60)); break;
            case 11: deed(somebody(), pair(), random.nextBoolean() ? about(1, 5) : about(1, 60)); break;
            case 12: wasLit(someStove()); break;
            default: tear(); break;
        }
    }

    private int pair() {
        return plain.w == 0 || random.nextInt(30) == 0 ? in(-20, 80) : in(0, plain.w - 1) * 10 + in(0, plain.h - 1);
    }

    private void then(int cx, int cy, int n, int what) {
        int want = !plain.isCell(cx, cy) ? U : outside(n, 1, 60) || outside(what, 0, 1) ? O : 0;
        if (want == 0) {
            PlainTown t = plain.copy();
            t.pass(n, -1);
            want = what == 0 ? t.heat[cy][cx] : t.owner[cy][cx];
        }
        due("then", x.then(cx, cy, n, what), want);
    }

    private void stands(int p, int n) {
        if (!person(p) || outside(n, 1, 5)) {
            due("stands", x.stands(p, n, 0), !person(p) ? U : O);
            return;
        }
        int[] want = plain.stands(p, n);
        for (int i = -1; i < n; i++) {
            due("stands " + p + " " + n + " " + i, x.stands(p, n, i), want[i + 1]);
        }
        due("stands, too many", x.stands(p, n, n), -1);
    }

    private void lighting(int p, int k, int n) {
        int refusal = !person(p) || !stove(k) ? U : outside(n, 1, 30) ? O : canBeLit(k) ? 0 : Check.NOT;
        due("lightFor", x.lightFor(p, k, n), refusal != 0 ? refusal : plain.lightFor(p, k, n));
        due("keptOut", x.keptOut(p, k, n), refusal != 0 ? refusal : plain.keptOut(p, k, n));
    }

    private void gain(int p, int cx, int cy) {
        int d = about(0, 1);
        int n = about(1, 60);
        int wall = wallRefusal(cx, cy, d);
        int refusal = !person(p) || wall == U ? U : wall != 0 ? wall : outside(n, 1, 60) ? O : 0;
        due("gain", x.gain(p, cx, cy, d, n), refusal != 0 ? refusal : plain.gain(p, cx, cy, d, n));
    }

    private void rents() {
        int[] want = plain.rents();
        for (int p = -1; p < plain.people.size(); p++) {
            due("rents " + p, x.rents(p), want[p + 1]);
        }
        due("rents, unknown", x.rents(plain.people.size()), U);
    }

    private int paperRefusal(int p, int pair, int m, int least) {
        boolean known = person(p) && pair >= 0 && plain.isCell(pair / 10, pair % 10);
        return !known ? U : outside(m, least, least + 59) ? O : 0;
    }

    private void claim(int p, int pair, int m) {
        int want = paperRefusal(p, pair, m, 0);
        if (want == 0) {
            if (plain.claims.size() < 12) {
                plain.claims.add(new int[] {p, pair, m});
                want = plain.claims.size();
            } else {
                want = Check.FULL;
            }
        }
        due("claim", x.claim(p, pair, m), want);
    }

    private void deed(int p, int pair, int m) {
        int want = paperRefusal(p, pair, m, 1);
        if (want == 0) {
            if (plain.deeds.size() < 8) {
                // Mostly one that may come true, else hardly anything would fit.
                PlainTown t = plain.copy();
                t.pass(m, -1);
                int o = t.owner[pair % 10][pair / 10];
                p = o != -1 && random.nextInt(3) != 0 ? o : p;
                plain.deeds.add(new int[] {p, pair, m});
                want = plain.deeds.size();
            } else {
                want = Check.FULL;
            }
        }
        due("deed", x.deed(p, pair, m), want);
    }

    private void cold(int v, int n) {
        boolean outside = outside(n, 1, 60);
        due("cold", x.cold(v, n), outside || outside(v, 0, 3) ? O : plain.cold(v, n));
        due("mildest", x.mildest(n), outside ? O : plain.mildest(n));
    }

    private void wasLit(int k) {
        if (!stove(k) || !canBeLit(k)) {
            due("wasLit", x.wasLit(k, -1), stove(k) ? Check.NOT : U);
            return;
        }
        List<Integer> want = plain.wasLit(k);
        due("wasLit, how many", x.wasLit(k, -1), want.size());
        int i = random.nextInt(60);
        due("wasLit, one", x.wasLit(k, i), i < want.size() ? want.get(i) : -1);
        due("wasLit, too many", x.wasLit(k, want.size()), -1);
        if (!want.isEmpty()) {
            due("wasLit, the last", x.wasLit(k, want.size() - 1), want.get(want.size() - 1));
        }
    }

    private void tear() {
        if (random.nextInt(3) == 0) {
            due("tear", x.tear(), plain.claims.size() + plain.deeds.size());
            plain.claims.clear();
            plain.deeds.clear();
        }
    }

    // ---- all that can be told

    private void compareAll() {
        int before = calls;
        int[] told = {plain.w, plain.h, plain.walls.size(), plain.stoves.size(), plain.roofs.size(), plain.sun.size(),
            plain.people.size(), 0, plain.minutes, plain.law, plain.lasting, plain.sunNow(), plain.frozen,
            plain.claims.size(), plain.deeds.size()};
        for (int what = 0; what < told.length; what++) {
            due("told " + what, x.told(what), told[what]);
        }
        for (int cy = 0; cy < plain.h; cy++) {
            for (int cx = 0; cx < plain.w; cx++) {
                due("heat", x.cell(cx, cy, 0), plain.heat[cy][cx]);
                due("owner", x.cell(cx, cy, 1), plain.owner[cy][cx]);
                due("roof", x.cell(cx, cy, 2), plain.roofs.contains(cx + " " + cy) ? 1 : 0);
            }
        }
        for (int k = 0; k < plain.stoves.size(); k++) {
            int[] s = plain.stoves.get(k);
            int[] want = {s[0] * 10 + s[1], s[2], s[3], s[4]};
            for (int what = 0; what < want.length; what++) {
                due("stove " + what, x.stove(k, what), want[what]);
            }
        }
        for (int p = 0; p < plain.people.size(); p++) {
            int[] who = plain.people.get(p);
            int[] want = {who[0] * 10 + who[1], who[2], who[3], who[4], who[5], who[6], plain.owned(p), who[7]};
            for (int what = 0; what < want.length; what++) {
                due("person " + what, x.person(p, what), want[what]);
            }
            due("on it", x.cell(who[0], who[1], 3) >> p & 1, 1);
        }
        calls = before;
    }
}
