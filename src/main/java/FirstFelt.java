import java.util.Arrays;

/** A town in which warmth belongs to whoever felt it first. */
public final class FirstFelt {
    public static final int NONE = -1, UNKNOWN = -1000000001, OUTSIDE = -1000000002, NOT = -1000000003, FULL = -1000000004;

    private static final int MOST_LETTERS = 260;
    private static final int MOST_CELLS = 20;
    private static final int MOST_SIDE = 6;
    private static final int MOST_WALLS = 12;
    private static final int MOST_STOVES = 4;
    private static final int MOST_ROOFS = 12;
    private static final int MOST_HOURS = 8;
    private static final int MOST_PEOPLE = 6;
    private static final int MOST_CLAIMS = 12;
    private static final int MOST_DEEDS = 8;
    private static final int MOST_STANDS = 5;
    private static final int MOST_ROUNDS = 20;
    private static final int MOST_RENT = 9;
    private static final int IMAGES = 2;

    private static final int STAY = 0;
    private static final int NORTH = 1;
    private static final int EAST = 2;
    private static final int SOUTH = 3;
    private static final int WEST = 4;
    private static final int WAYS = 5;

    private static final int FOR_EVER = 0;
    private static final int WHILE_FELT = 1;
    private static final int WHILE_THERE = 2;
    private static final int SHARED = 3;

    private static final int FIRST_LASTING = 3;
    private static final int MOST_LASTING = 20;
    private static final int MOST_AT_ONCE = 60;
    private static final int MOST_WAITING = 30;
    private static final int MOST_MINUTES = 900000;
    private static final int MINUTES_AN_HOUR = 6;
    private static final int MOST_HEAT = 999;
    private static final int MOST_WOOD = 999;
    private static final int MOST_STOKED = 99;
    private static final int MOST_OWED = 999999;
    private static final int DEAR_HEAT = 50;
    private static final int FREEZING_SKIN = 20;

    private static final int CANNOT_STAND = 1;
    private static final int OUT_OF_BOUNDS = 2;
    private static final int TOO_MANY = 3;
    private static final int AGAIN = 4;

    private final Reader reader = new Reader();
    private final Papers claims = new Papers(MOST_CLAIMS);
    private final Papers deeds = new Papers(MOST_DEEDS);
    private final State[] images = new State[IMAGES];
    private final int[] kept = new int[IMAGES];
    private final State trial = new State();
    private final State waiting = new State();
    private final Tour tour = new Tour();
    private final Market market = new Market();
    private Town land = new Town();
    private Town spareLand = new Town();
    private State now = new State();
    private State spareNow = new State();

    public FirstFelt() {
        for (int i = 0; i < IMAGES; i++) {
            images[i] = new State();
        }
    }

    // ---- the town

    public int feed(int letter) {
        if (letter < 0 || letter > 255) {
            return OUTSIDE;
        }
        return reader.take(letter) ? reader.length : FULL;
    }

    public int town() {
        int seedNow = now.seed;
        boolean good = reader.read(spareLand, spareNow);
        reader.length = 0;
        if (!good) {
            return -10 - reader.kind;
        }
        Town oldLand = land;
        land = spareLand;
        spareLand = oldLand;
        State oldNow = now;
        now = spareNow;
        spareNow = oldNow;
        now.seed = seedNow;
        claims.count = 0;
        deeds.count = 0;
        Arrays.fill(kept, 0);
        return land.cells();
    }

    public int fault() {
        return reader.faultAt;
    }

    public int told(int what) {
        switch (what) {
            case 0: return land.width;
            case 1: return land.height;
            case 2: return now.countWalls(land);
            case 3: return land.stoves;
            case 4: return land.roofs;
            case 5: return land.hours;
            case 6: return land.people;
            case 7: return reader.length;
            case 8: return now.minutes;
            case 9: return now.ruling;
            case 10: return now.lasting;
            case 11: return land.sunAt(now.minutes);
            case 12: return now.frozen;
            case 13: return claims.count;
            case 14: return deeds.count;
            default: return OUTSIDE;
        }
    }

    public int cell(int x, int y, int what) {
        int c = land.cellAt(x, y);
        if (c == NONE) {
            return UNKNOWN;
        }
        switch (what) {
            case 0: return now.heat[c];
            case 1: return now.owner[c];
            case 2: return land.roofed[c];
            case 3: return now.peopleOn(land, c);
            default: return OUTSIDE;
        }
    }

    public int wall(int x, int y, int d) {
        int refusal = refusalOfWall(x, y, d);
        return refusal != 0 ? refusal : now.wallOf(land.cellAt(x, y), d);
    }

    public int stove(int k, int what) {
        if (!isStove(k)) {
            return UNKNOWN;
        }
        switch (what) {
            case 0: return land.pairOf(land.stoveCell[k]);
            case 1: return land.stoveHeat[k];
            case 2: return now.wood[k];
            case 3: return now.burns[k];
            default: return OUTSIDE;
        }
    }

    public int person(int p, int what) {
        if (!isPerson(p)) {
            return UNKNOWN;
        }
        switch (what) {
            case 0: return land.pairOf(now.at[p]);
            case 1: return now.skin[p];
            case 2: return land.notices[p];
            case 3: return land.fever[p];
            case 4: return now.owes[p];
            case 5: return now.due[p];
            case 6: return now.countOwned(land, p);
            case 7: return now.partners[p];
            default: return OUTSIDE;
        }
    }

    // ---- what is done

    public int go(int p, int way) {
        if (!isPerson(p)) {
            return UNKNOWN;
        }
        if (way < NORTH || way > WEST) {
            return OUTSIDE;
        }
        int there = now.reach(land, now.at[p], way);
        if (there == NONE) {
            return NOT;
        }
        now.at[p] = there;
        return land.pairOf(there);
    }

    public int build(int x, int y, int d, boolean is) {
        int refusal = refusalOfWall(x, y, d);
        if (refusal != 0) {
            return refusal;
        }
        int c = land.cellAt(x, y);
        int was = now.wallOf(c, d);
        now.setWall(land, c, d, is);
        return was;
    }

    public int light(int k) {
        if (!isStove(k)) {
            return UNKNOWN;
        }
        if (!now.canBeLit(k)) {
            return NOT;
        }
        now.burns[k] = 1;
        return now.wood[k];
    }

    public int stoke(int k, int f) {
        if (!isStove(k)) {
            return UNKNOWN;
        }
        if (f < 1 || f > MOST_STOKED) {
            return OUTSIDE;
        }
        now.wood[k] = Math.min(MOST_WOOD, now.wood[k] + f);
        return now.wood[k];
    }

    public int law(int v) {
        if (!isLaw(v)) {
            return OUTSIDE;
        }
        int was = now.ruling;
        now.ruling = v;
        return was;
    }

    public int last(int v) {
        if (v < 1 || v > MOST_LASTING) {
            return OUTSIDE;
        }
        int was = now.lasting;
        now.lasting = v;
        return was;
    }

    public int minute(int n) {
        int refusal = refusalOfMinutes(n);
        if (refusal != 0) {
            return refusal;
        }
        now.passMinutes(land, n, NONE);
        return now.minutes;
    }

    public int drift(int n) {
        int refusal = refusalOfMinutes(n);
        if (refusal != 0) {
            return refusal;
        }
        for (int i = 0; i < n; i++) {
            wander();
            now.passMinute(land, NONE);
        }
        return now.minutes;
    }

    // ---- tried

    public int then(int x, int y, int n, int what) {
        int c = land.cellAt(x, y);
        if (c == NONE) {
            return UNKNOWN;
        }
        if (!isSpan(n) || what < 0 || what > 1) {
            return OUTSIDE;
        }
        trial.copyFrom(now);
        trial.passMinutes(land, n, NONE);
        return what == 0 ? trial.heat[c] : trial.owner[c];
    }

    public int stands(int p, int n, int i) {
        if (!isPerson(p)) {
            return UNKNOWN;
        }
        if (n < 1 || n > MOST_STANDS) {
            return OUTSIDE;
        }
        if (i != NONE && (i < 0 || i >= n)) {
            return NONE;
        }
        tour.begin(land, now, p, n);
        tryWays(tour, 0);
        return i == NONE ? tour.most : tour.bestRow[i];
    }

    public int lightFor(int p, int k, int n) {
        int refusal = refusalOfLighting(p, k, n);
        if (refusal != 0) {
            return refusal;
        }
        waiting.copyFrom(now);
        for (int wait = 0; wait <= n; wait++) {
            if (ownsStove(waiting, p, k, n - wait, NONE)) {
                return wait;
            }
            waiting.passMinute(land, NONE);
        }
        return NONE;
    }

    public int keptOut(int p, int k, int n) {
        int refusal = refusalOfLighting(p, k, n);
        if (refusal != 0) {
            return refusal;
        }
        if (ownsStove(now, p, k, n, NONE)) {
            return NONE;
        }
        for (int other = 0; other < land.people; other++) {
            if (other != p && ownsStove(now, p, k, n, other)) {
                return other;
            }
        }
        return NONE;
    }

    public int gain(int p, int x, int y, int d, int n) {
        if (!isPerson(p)) {
            return UNKNOWN;
        }
        int refusal = refusalOfWall(x, y, d);
        if (refusal != 0) {
            return refusal;
        }
        if (!isSpan(n)) {
            return OUTSIDE;
        }
        int c = land.cellAt(x, y);
        return ownedWithWall(p, c, d, n, true) - ownedWithWall(p, c, d, n, false);
    }

    public int rents(int p) {
        if (p != NONE && !isPerson(p)) {
            return UNKNOWN;
        }
        int rounds = market.settle(land, now);
        return p == NONE || rounds == NONE ? rounds : market.asks[p];
    }

    public int claim(int p, int pair, int m) {
        int c = land.cellOfPair(pair);
        if (!isPerson(p) || c == NONE) {
            return UNKNOWN;
        }
        if (m < 0 || m >= MOST_AT_ONCE) {
            return OUTSIDE;
        }
        return claims.write(p, c, m) ? claims.count : FULL;
    }

    public int forged() {
        int not = 0;
        int end = claims.latest();
        trial.copyFrom(now);
        for (int m = 0; m <= end; m++) {
            trial.passMinute(land, NONE);
            not |= claims.notFeltAt(m, trial);
        }
        return not;
    }

    public int cold(int v, int n) {
        return isLaw(v) && isSpan(n) ? countFreezing(v, n) : OUTSIDE;
    }

    public int mildest(int n) {
        if (!isSpan(n)) {
            return OUTSIDE;
        }
        int best = FOR_EVER;
        int fewest = countFreezing(FOR_EVER, n);
        for (int v = WHILE_FELT; v <= SHARED; v++) {
            int freezing = countFreezing(v, n);
            if (freezing < fewest) {
                fewest = freezing;
                best = v;
            }
        }
        return best;
    }

    public int deed(int p, int pair, int m) {
        int c = land.cellOfPair(pair);
        if (!isPerson(p) || c == NONE) {
            return UNKNOWN;
        }
        if (!isSpan(m)) {
            return OUTSIDE;
        }
        return deeds.write(p, c, m) ? deeds.count : FULL;
    }

    public int wasLit(int k, int i) {
        if (!isStove(k)) {
            return UNKNOWN;
        }
        if (!now.canBeLit(k)) {
            return NOT;
        }
        int fitting = 0;
        waiting.copyFrom(now);
        for (int wait = 0; wait < MOST_AT_ONCE; wait++) {
            if (fitsLitNow(k, wait)) {
                if (fitting == i) {
                    return wait;
                }
                fitting++;
            }
            waiting.passMinute(land, NONE);
            // A deed that fails ahead of the lighting fails for all later ones.
            if (!deeds.ownedAt(wait + 1, waiting)) {
                break;
            }
        }
        return i == NONE ? fitting : NONE;
    }

    public int tear() {
        int both = claims.count + deeds.count;
        claims.count = 0;
        deeds.count = 0;
        return both;
    }

    // ---- draws, images

    public int seed(int v) {
        if (v < 0) {
            return OUTSIDE;
        }
        int was = now.seed;
        now.seed = v;
        return was;
    }

    public int keep(int i) {
        if (i < 0 || i >= IMAGES) {
            return UNKNOWN;
        }
        images[i].copyFrom(now);
        kept[i] = 1;
        return 1;
    }

    public int goBack(int i) {
        if (i < 0 || i >= IMAGES) {
            return UNKNOWN;
        }
        if (kept[i] == 0) {
            return NOT;
        }
        now.copyFrom(images[i]);
        return 1;
    }

    // ---- what the calls share

    private boolean isPerson(int p) {
        return p >= 0 && p < land.people;
    }

    private boolean isStove(int k) {
        return k >= 0 && k < land.stoves;
    }

    private static boolean isLaw(int v) {
        return v >= FOR_EVER && v <= SHARED;
    }

    private static boolean isSpan(int n) {
        return n >= 1 && n <= MOST_AT_ONCE;
    }

    private int refusalOfWall(int x, int y, int d) {
        int c = land.cellAt(x, y);
        if (c == NONE) {
            return UNKNOWN;
        }
        if (d < 0 || d > 1) {
            return OUTSIDE;
        }
        return land.beside(c, wayOfWall(d)) == NONE ? UNKNOWN : 0;
    }

    private int refusalOfMinutes(int n) {
        if (!isSpan(n)) {
            return OUTSIDE;
        }
        if (land.cells() == 0) {
            return NOT;
        }
        return now.minutes > MOST_MINUTES ? FULL : 0;
    }

    private int refusalOfLighting(int p, int k, int n) {
        if (!isPerson(p) || !isStove(k)) {
            return UNKNOWN;
        }
        if (n < 1 || n > MOST_WAITING) {
            return OUTSIDE;
        }
        return now.canBeLit(k) ? 0 : NOT;
    }

    private static int wayOfWall(int d) {
        return d == 0 ? EAST : SOUTH;
    }

    private void wander() {
        for (int p = 0; p < land.people; p++) {
            int there = now.reach(land, now.at[p], now.draw(WAYS));
            if (there != NONE) {
                now.at[p] = there;
            }
        }
        if (now.draw(20) == 0 && land.stoves > 0) {
            int k = now.draw(land.stoves);
            if (now.canBeLit(k)) {
                now.burns[k] = 1;
            }
        }
    }

    /** Whether p owns the cell of stove k behind n minutes, if it is lit in the told state and one is numb. */
    private boolean ownsStove(State from, int p, int k, int n, int numb) {
        trial.copyFrom(from);
        trial.burns[k] = 1;
        trial.passMinutes(land, n, numb);
        return trial.owner[land.stoveCell[k]] == p;
    }

    private int ownedWithWall(int p, int c, int d, int n, boolean is) {
        trial.copyFrom(now);
        trial.setWall(land, c, d, is);
        trial.passMinutes(land, n, NONE);
        return trial.countOwned(land, p);
    }

    private int countFreezing(int v, int n) {
        trial.copyFrom(now);
        trial.ruling = v;
        trial.frozen = 0;
        for (int i = 0; i < n; i++) {
            trial.leaveDearCells(land);
            trial.passMinute(land, NONE);
        }
        return Integer.bitCount(trial.frozen);
    }

    private boolean fitsLitNow(int k, int wait) {
        int end = deeds.latest();
        trial.copyFrom(waiting);
        trial.burns[k] = 1;
        for (int m = wait + 1; m <= end; m++) {
            trial.passMinute(land, NONE);
            if (!deeds.ownedAt(m, trial)) {
                return false;
            }
        }
        return true;
    }

    private static void tryWays(Tour tour, int depth) {
        if (depth > MOST_STANDS) {
            return;
        }
        State here = tour.levels[depth];
        int owned = here.countOwned(tour.land, tour.walker);
        if (depth >= tour.length) {
            tour.finish(owned);
            return;
        }
        // One minute brings him one cell at most, so that such a row can win no more.
        if (owned + tour.length - depth <= tour.most) {
            return;
        }
        State there = tour.levels[depth + 1];
        for (int way = STAY; way <= WEST; way++) {
            int c = here.reach(tour.land, here.at[tour.walker], way);
            if (c != NONE) {
                there.copyFrom(here);
                there.at[tour.walker] = c;
                there.passMinute(tour.land, NONE);
                tour.row[depth] = way;
                tryWays(tour, depth + 1);
            }
        }
    }

    /** What the text tells and nothing changes behind it. */
    private static final class Town {
        private int width;
        private int height;
        private int stoves;
        private int roofs;
        private int hours;
        private int people;
        private final int[] besides = new int[MOST_CELLS * WAYS];
        private final int[] roofed = new int[MOST_CELLS];
        private final int[] sun = new int[MOST_HOURS];
        private final int[] stoveCell = new int[MOST_STOVES];
        private final int[] stoveHeat = new int[MOST_STOVES];
        private final int[] notices = new int[MOST_PEOPLE];
        private final int[] fever = new int[MOST_PEOPLE];

        private void clear() {
            width = 0;
            height = 0;
            stoves = 0;
            roofs = 0;
            hours = 0;
            people = 0;
            Arrays.fill(roofed, 0);
        }

        private void setSize(int w, int h) {
            width = w;
            height = h;
            for (int y = 0; y < h; y++) {
                for (int x = 0; x < w; x++) {
                    int row = cellAt(x, y) * WAYS;
                    besides[row + STAY] = cellAt(x, y);
                    besides[row + NORTH] = cellAt(x, y - 1);
                    besides[row + EAST] = cellAt(x + 1, y);
                    besides[row + SOUTH] = cellAt(x, y + 1);
                    besides[row + WEST] = cellAt(x - 1, y);
                }
            }
        }

        private int cells() {
            return width * height;
        }

        private int cellAt(int x, int y) {
            return x >= 0 && x < width && y >= 0 && y < height ? y * width + x : NONE;
        }

        private int cellOfPair(int pair) {
            return pair < 0 ? NONE : cellAt(pair / 10, pair % 10);
        }

        private int pairOf(int c) {
            return width < 1 ? NONE : c % width * 10 + c / width;
        }

        /** The cell that lies there, walls or not. */
        private int beside(int c, int way) {
            return besides[c * WAYS + way];
        }

        private int sunAt(int minute) {
            return hours < 1 ? 0 : sun[minute / MINUTES_AN_HOUR % hours];
        }
    }

    /** What minutes change; a try is a copy that is thrown away. */
    private static final class State {
        private final int[] heat = new int[MOST_CELLS];
        private final int[] nextHeat = new int[MOST_CELLS];
        private final int[] owner = new int[MOST_CELLS];
        private final int[] felt = new int[MOST_CELLS];
        private final int[] barred = new int[MOST_CELLS];
        private final int[] wood = new int[MOST_STOVES];
        private final int[] burns = new int[MOST_STOVES];
        private final int[] at = new int[MOST_PEOPLE];
        private final int[] skin = new int[MOST_PEOPLE];
        private final int[] owes = new int[MOST_PEOPLE];
        private final int[] due = new int[MOST_PEOPLE];
        private final int[] partners = new int[MOST_PEOPLE];
        private int feeling;
        private int frozen;
        private int ruling;
        private int lasting = FIRST_LASTING;
        private int minutes;
        private int seed;

        private void clear() {
            Arrays.fill(owner, NONE);
            Arrays.fill(felt, 0);
            Arrays.fill(barred, 0);
            Arrays.fill(burns, 0);
            Arrays.fill(owes, 0);
            Arrays.fill(due, 0);
            Arrays.fill(partners, 0);
            frozen = 0;
            ruling = FOR_EVER;
            lasting = FIRST_LASTING;
            minutes = 0;
        }

        private void copyFrom(State other) {
            System.arraycopy(other.heat, 0, heat, 0, MOST_CELLS);
            System.arraycopy(other.owner, 0, owner, 0, MOST_CELLS);
            System.arraycopy(other.felt, 0, felt, 0, MOST_CELLS);
            System.arraycopy(other.barred, 0, barred, 0, MOST_CELLS);
            System.arraycopy(other.wood, 0, wood, 0, MOST_STOVES);
            System.arraycopy(other.burns, 0, burns, 0, MOST_STOVES);
            System.arraycopy(other.at, 0, at, 0, MOST_PEOPLE);
            System.arraycopy(other.skin, 0, skin, 0, MOST_PEOPLE);
            System.arraycopy(other.owes, 0, owes, 0, MOST_PEOPLE);
            System.arraycopy(other.due, 0, due, 0, MOST_PEOPLE);
            System.arraycopy(other.partners, 0, partners, 0, MOST_PEOPLE);
            frozen = other.frozen;
            ruling = other.ruling;
            lasting = other.lasting;
            minutes = other.minutes;
            seed = other.seed;
        }

        private void setWall(Town land, int c, int d, boolean is) {
            int way = wayOfWall(d);
            int other = land.beside(c, way);
            if (other == NONE) {
                return;
            }
            int back = way == EAST ? WEST : NORTH;
            barred[c] = is ? barred[c] | 1 << way : barred[c] & ~(1 << way);
            barred[other] = is ? barred[other] | 1 << back : barred[other] & ~(1 << back);
        }

        private int wallOf(int c, int d) {
            return barred[c] >> wayOfWall(d) & 1;
        }

        private int countWalls(Town land) {
            int count = 0;
            for (int c = 0; c < land.cells(); c++) {
                count += wallOf(c, 0) + wallOf(c, 1);
            }
            return count;
        }

        /** The cell that one comes to from c by a way, NONE off the town and through a wall. */
        private int reach(Town land, int c, int way) {
            return (barred[c] >> way & 1) != 0 ? NONE : land.besides[c * WAYS + way];
        }

        private int peopleOn(Town land, int c) {
            int set = 0;
            for (int p = 0; p < land.people; p++) {
                if (at[p] == c) {
                    set |= 1 << p;
                }
            }
            return set;
        }

        private int countOwned(Town land, int p) {
            int count = 0;
            int cells = land.cells();
            for (int c = 0; c < cells; c++) {
                if (owner[c] == p) {
                    count++;
                }
            }
            return count;
        }

        private boolean canBeLit(int k) {
            return burns[k] == 0 && wood[k] > 0;
        }

        private boolean feels(int p) {
            return (feeling >> p & 1) != 0;
        }

        private int draw(int n) {
            seed = (int) ((seed * 1103515245L + 12345L) & 0x7fffffffL);
            return n < 1 ? 0 : seed / 65536 % n;
        }

        private void passMinutes(Town land, int n, int numb) {
            for (int i = 0; i < n; i++) {
                passMinute(land, numb);
            }
        }

        /** One minute; who is numb feels nothing in it. */
        private void passMinute(Town land, int numb) {
            flow(land);
            addWarmth(land);
            coolDown(land);
            feel(land, numb);
            takeCells(land);
            keepLaw(land);
            oweForWarmth(land);
            warmSkins(land);
            minutes++;
        }

        private void flow(Town land) {
            int cells = land.cells();
            System.arraycopy(heat, 0, nextHeat, 0, cells);
            for (int c = 0; c < cells; c++) {
                flowBetween(c, reach(land, c, EAST));
                flowBetween(c, reach(land, c, SOUTH));
            }
            System.arraycopy(nextHeat, 0, heat, 0, cells);
        }

        private void flowBetween(int c, int other) {
            if (other != NONE) {
                int gained = (heat[other] - heat[c]) / 8;
                nextHeat[c] += gained;
                nextHeat[other] -= gained;
            }
        }

        private void addWarmth(Town land) {
            for (int k = 0; k < land.stoves; k++) {
                if (burns[k] != 0) {
                    heat[land.stoveCell[k]] += land.stoveHeat[k];
                    wood[k]--;
                    burns[k] = wood[k] > 0 ? 1 : 0;
                }
            }
            for (int p = 0; p < land.people; p++) {
                heat[at[p]] += land.fever[p];
            }
        }

        private void coolDown(Town land) {
            int cells = land.cells();
            int sun = land.sunAt(minutes);
            for (int c = 0; c < cells; c++) {
                int warm = land.roofed[c] != 0 ? heat[c] : heat[c] + sun;
                heat[c] = Math.min(MOST_HEAT, warm - warm / 50);
            }
        }

        private void feel(Town land, int numb) {
            feeling = 0;
            for (int p = 0; p < land.people; p++) {
                if (p != numb && heat[at[p]] >= skin[p] + land.notices[p]) {
                    feeling |= 1 << p;
                }
            }
        }

        private void takeCells(Town land) {
            for (int p = 0; p < land.people; p++) {
                int c = at[p];
                if (feels(p) && owner[c] == NONE) {
                    owner[c] = coldestFeeling(land, c);
                }
                if (feels(p) && owner[c] == p) {
                    felt[c] = minutes;
                }
            }
        }

        private int coldestFeeling(Town land, int c) {
            int coldest = NONE;
            for (int p = 0; p < land.people; p++) {
                if (feels(p) && at[p] == c && (coldest == NONE || skin[p] < skin[coldest])) {
                    coldest = p;
                }
            }
            return coldest;
        }

        private void keepLaw(Town land) {
            if (ruling == WHILE_FELT || ruling == WHILE_THERE) {
                endOwning(land);
            } else if (ruling == SHARED) {
                makePartners(land);
            }
        }

        private void endOwning(Town land) {
            int cells = land.cells();
            for (int c = 0; c < cells; c++) {
                if (owner[c] != NONE) {
                    boolean lasts = ruling == WHILE_FELT ? minutes - felt[c] <= lasting : at[owner[c]] == c;
                    if (!lasts) {
                        owner[c] = NONE;
                    }
                }
            }
        }

        private void makePartners(Town land) {
            for (int p = 0; p < land.people; p++) {
                int lord = owner[at[p]];
                if (feels(p) && lord != NONE && lord != p) {
                    partners[p] |= 1 << lord;
                    partners[lord] |= 1 << p;
                }
            }
        }

        /** Whether a cell is warm and another one's who is no partner of p. */
        private boolean isDear(int p, int c) {
            int lord = owner[c];
            return heat[c] >= DEAR_HEAT && lord != NONE && lord != p && (partners[p] >> lord & 1) == 0;
        }

        private void oweForWarmth(Town land) {
            for (int p = 0; p < land.people; p++) {
                if (isDear(p, at[p])) {
                    int lord = owner[at[p]];
                    owes[p] = Math.min(MOST_OWED, owes[p] + 1);
                    due[lord] = Math.min(MOST_OWED, due[lord] + 1);
                }
            }
        }

        private void warmSkins(Town land) {
            for (int p = 0; p < land.people; p++) {
                skin[p] += (heat[at[p]] - skin[p]) / 4;
                if (skin[p] < FREEZING_SKIN) {
                    frozen |= 1 << p;
                }
            }
        }

        private void leaveDearCells(Town land) {
            for (int p = 0; p < land.people; p++) {
                if (isDear(p, at[p])) {
                    at[p] = refuge(land, p);
                }
            }
        }

        private int refuge(Town land, int p) {
            for (int way = NORTH; way <= WEST; way++) {
                int c = reach(land, at[p], way);
                if (c != NONE && !isDear(p, c)) {
                    return c;
                }
            }
            return at[p];
        }
    }

    /** The text and how it is read, up to its first fault. */
    private static final class Reader {
        private final int[] text = new int[MOST_LETTERS];
        private int length;
        private int place;
        private int numberAt;
        private int kind;
        private int faultAt = NONE;
        private int walls;
        private Town land;
        private State start;

        private boolean take(int letter) {
            if (length >= MOST_LETTERS) {
                return false;
            }
            text[length] = letter;
            length++;
            return true;
        }

        private boolean read(Town intoLand, State intoStart) {
            land = intoLand;
            start = intoStart;
            land.clear();
            start.clear();
            place = 0;
            walls = 0;
            kind = 0;
            faultAt = NONE;
            skipBlanks();
            // Each clause takes a letter at least, so that these are enough.
            for (int clause = 0; clause < MOST_LETTERS && place < length; clause++) {
                if (!readClause()) {
                    return false;
                }
                skipBlanks();
            }
            return true;
        }

        private boolean readClause() {
            int word = text[place];
            if (land.width == 0 && word != 't') {
                return fail(CANNOT_STAND, place);
            }
            switch (word) {
                case 't': return startClause(land.width == 0) && readTown();
                case 'w': return startClause(walls < MOST_WALLS) && readWall();
                case 'o': return startClause(land.stoves < MOST_STOVES) && readStove();
                case 'r': return startClause(land.roofs < MOST_ROOFS) && readRoof();
                case 's': return startClause(land.hours == 0) && readSun();
                case 'p': return startClause(land.people < MOST_PEOPLE) && readPerson();
                default: return fail(CANNOT_STAND, place);
            }
        }

        private boolean startClause(boolean roomForIt) {
            if (!roomForIt) {
                return fail(TOO_MANY, place);
            }
            place++;
            return true;
        }

        private boolean readTown() {
            int w = readNumber(1, MOST_SIDE);
            if (w < 1) {
                return false;
            }
            int h = readNumber(1, Math.min(MOST_SIDE, MOST_CELLS / w));
            if (h == NONE) {
                return false;
            }
            int b = readNumber(0, 200);
            if (b == NONE) {
                return false;
            }
            land.setSize(w, h);
            Arrays.fill(start.heat, b);
            return endClause();
        }

        private boolean readWall() {
            int c = readCell();
            if (c == NONE) {
                return false;
            }
            int d = readNumber(0, 1);
            if (d == NONE) {
                return false;
            }
            if (land.beside(c, wayOfWall(d)) == NONE) {
                return fail(OUT_OF_BOUNDS, numberAt);
            }
            if (start.wallOf(c, d) != 0) {
                return fail(AGAIN, numberAt);
            }
            start.setWall(land, c, d, true);
            walls++;
            return endClause();
        }

        private boolean readStove() {
            int c = readCell();
            if (c == NONE) {
                return false;
            }
            if (hasStove(c)) {
                return fail(AGAIN, numberAt);
            }
            int s = readNumber(1, 60);
            if (s == NONE) {
                return false;
            }
            int f = readNumber(0, 99);
            if (f == NONE) {
                return false;
            }
            int k = land.stoves;
            land.stoves++;
            land.stoveCell[k] = c;
            land.stoveHeat[k] = s;
            start.wood[k] = f;
            return endClause();
        }

        private boolean hasStove(int c) {
            for (int k = 0; k < land.stoves; k++) {
                if (land.stoveCell[k] == c) {
                    return true;
                }
            }
            return false;
        }

        private boolean readRoof() {
            int c = readCell();
            if (c == NONE) {
                return false;
            }
            if (land.roofed[c] != 0) {
                return fail(AGAIN, numberAt);
            }
            land.roofed[c] = 1;
            land.roofs++;
            return endClause();
        }

        private boolean readSun() {
            for (int hour = 0; hour < MOST_HOURS; hour++) {
                int a = readNumber(0, 30);
                if (a == NONE) {
                    return false;
                }
                land.sun[hour] = a;
                land.hours = hour + 1;
                skipBlanks();
                // Behind the last hour that there may be a ',' is left to endClause, which refuses it.
                if (hour + 1 >= MOST_HOURS || place >= length || text[place] != ',') {
                    return endClause();
                }
                place++;
            }
            return false;
        }

        private boolean readPerson() {
            int c = readCell();
            if (c == NONE) {
                return false;
            }
            int k = readNumber(0, 300);
            if (k == NONE) {
                return false;
            }
            int t = readNumber(1, 60);
            if (t == NONE) {
                return false;
            }
            int v = readNumber(0, 9);
            if (v == NONE) {
                return false;
            }
            int p = land.people;
            land.people++;
            start.at[p] = c;
            start.skin[p] = k;
            land.notices[p] = t;
            land.fever[p] = v;
            return endClause();
        }

        private int readCell() {
            int x = readNumber(0, land.width - 1);
            if (x == NONE) {
                return NONE;
            }
            int y = readNumber(0, land.height - 1);
            return y == NONE ? NONE : land.cellAt(x, y);
        }

        /** NONE, with the fault told, if no number within the bounds stands here. */
        private int readNumber(int least, int most) {
            skipBlanks();
            numberAt = place;
            int number = 0;
            while (place < length && text[place] >= '0' && text[place] <= '9') {
                // Four figures are too many in any case; more of them must not wrap around.
                number = Math.min(1000, number * 10 + text[place] - '0');
                place++;
            }
            int figures = place - numberAt;
            if (figures == 0) {
                fail(CANNOT_STAND, numberAt);
                return NONE;
            }
            if (figures > 3 || number < least || number > most) {
                fail(OUT_OF_BOUNDS, numberAt);
                return NONE;
            }
            return number;
        }

        private boolean endClause() {
            skipBlanks();
            if (place >= length || text[place] != ';') {
                return fail(CANNOT_STAND, place);
            }
            place++;
            return true;
        }

        private void skipBlanks() {
            while (place < length && text[place] == ' ') {
                place++;
            }
        }

        private boolean fail(int faultKind, int where) {
            kind = faultKind;
            faultAt = where;
            return false;
        }
    }

    /** Claims or deeds: who, where, at which minute from now. */
    private static final class Papers {
        private final int[] who;
        private final int[] where;
        private final int[] when;
        private int count;

        private Papers(int most) {
            int room = Math.max(0, most);
            who = new int[room];
            where = new int[room];
            when = new int[room];
        }

        private boolean write(int p, int c, int m) {
            if (count >= who.length) {
                return false;
            }
            who[count] = p;
            where[count] = c;
            when[count] = m;
            count++;
            return true;
        }

        private int latest() {
            int latest = NONE;
            for (int i = 0; i < count; i++) {
                latest = Math.max(latest, when[i]);
            }
            return latest;
        }

        private int notFeltAt(int m, State state) {
            int set = 0;
            for (int i = 0; i < count; i++) {
                if (when[i] == m && !(state.at[who[i]] == where[i] && state.feels(who[i]))) {
                    set |= 1 << i;
                }
            }
            return set;
        }

        private boolean ownedAt(int m, State state) {
            for (int i = 0; i < count; i++) {
                if (when[i] == m && state.owner[where[i]] != who[i]) {
                    return false;
                }
            }
            return true;
        }
    }

    /** The search for where one should stand, a state for each depth of it. */
    private static final class Tour {
        private final State[] levels = new State[MOST_STANDS + 1];
        private final int[] row = new int[MOST_STANDS];
        private final int[] bestRow = new int[MOST_STANDS];
        private Town land;
        private int walker;
        private int length;
        private int most;

        private Tour() {
            for (int depth = 0; depth <= MOST_STANDS; depth++) {
                levels[depth] = new State();
            }
        }

        private void begin(Town where, State from, int p, int n) {
            land = where;
            levels[0].copyFrom(from);
            walker = p;
            length = n;
            most = NONE;
        }

        private void finish(int owned) {
            if (owned > most) {
                most = owned;
                System.arraycopy(row, 0, bestRow, 0, MOST_STANDS);
            }
        }
    }

    /** Rents that are asked round by round, till nobody would ask otherwise. */
    private static final class Market {
        private final int[] asks = new int[MOST_PEOPLE];

        /** How many rounds changed something; NONE if they would not end. */
        private int settle(Town land, State state) {
            Arrays.fill(asks, 0);
            for (int round = 0; round < MOST_ROUNDS; round++) {
                if (!askAnew(land, state)) {
                    return round;
                }
            }
            return NONE;
        }

        private boolean askAnew(Town land, State state) {
            boolean changed = false;
            for (int p = 0; p < land.people; p++) {
                int best = bestRent(land, state, p);
                changed = changed || best != asks[p];
                asks[p] = best;
            }
            return changed;
        }

        private int bestRent(Town land, State state, int p) {
            int best = 0;
            int most = 0;
            for (int rent = 1; rent <= MOST_RENT; rent++) {
                int income = rent * countLet(land, state, p, rent);
                if (income > most) {
                    most = income;
                    best = rent;
                }
            }
            return best;
        }

        private int countLet(Town land, State state, int p, int rent) {
            int count = 0;
            int cells = land.cells();
            for (int c = 0; c < cells; c++) {
                if (state.owner[c] == p && rent <= state.heat[c] / 50 && !isUndercut(land, state, c, rent)) {
                    count++;
                }
            }
            return count;
        }

        private boolean isUndercut(Town land, State state, int c, int rent) {
            for (int way = NORTH; way <= WEST; way++) {
                int other = state.reach(land, c, way);
                if (other != NONE) {
                    int lord = state.owner[other];
                    if (lord != NONE && lord != state.owner[c] && asks[lord] < rent) {
                        return true;
                    }
                }
            }
            return false;
        }
    }
}
