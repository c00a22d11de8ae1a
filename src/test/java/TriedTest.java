/** Promises 18 to 33: tried, draws, images; numbers were reckoned by hand, but where told. */
public final class TriedTest {
    /** Lit now or in one of two minutes, the second one feels it first; lit later the first one does. */
    private static final String RIVALS = "t1 1 49;o0 0 30 9;p0 0 100 5 0;p0 0 40 35 0;";

    public static void main(String[] args) {
        then();
        stands();
        lightFor();
        keptOut();
        gain();
        rents();
        claims();
        cold();
        mildest();
        deeds();
        tear();
        seed();
        images();
        Check.end("TriedTest");
    }

    private static void then() {
        FirstFelt x = Check.townOf("t2 1 0;o0 0 60 99;p1 0 0 1 0;");
        x.light(0);
        Check.due("18: heat", x.then(0, 0, 3, 0), 155);
        Check.due("18: heat beside", x.then(1, 0, 3, 0), 19);
        Check.due("18: nobody", x.then(1, 0, 1, 1), Check.NONE);
        Check.due("18: his", x.then(1, 0, 2, 1), 0);
        Check.due("18: nothing changes", x.told(8), 0);
        Check.due("18: no heat", x.cell(0, 0, 0), 0);
        Check.due("18: wood", x.stove(0, 2), 99);
        Check.due("18: unknown", x.then(2, 0, 0, 9), Check.UNKNOWN);
        Check.due("18: n", x.then(0, 0, 0, 0), Check.OUTSIDE);
        Check.due("18: n above", x.then(0, 0, 61, 0), Check.OUTSIDE);
        Check.due("18: what", x.then(0, 0, 1, 2), Check.OUTSIDE);
        Check.due("18: what below", x.then(0, 0, 1, -1), Check.OUTSIDE);
        int then = x.then(1, 0, 60, 0);
        x.minute(60);
        Check.due("18: so it comes", x.cell(1, 0, 0), then);
    }

    private static void row(FirstFelt x, int p, int[] ways, int cells) {
        int n = ways.length;
        Check.due("19: cells in " + n, x.stands(p, n, Check.NONE), cells);
        for (int i = 0; i < n; i++) {
            Check.due("19: way " + i + " of " + n, x.stands(p, n, i), ways[i]);
        }
        Check.due("19: not so many", x.stands(p, n, n), Check.NONE);
    }

    private static void stands() {
        FirstFelt x = Check.townOf("t3 1 100;p1 0 0 1 0;");
        row(x, 0, new int[] {0}, 1);
        row(x, 0, new int[] {0, 2}, 2);
        row(x, 0, new int[] {2, 4, 4}, 3);
        row(x, 0, new int[] {0, 2, 4, 4}, 3);
        row(x, 0, new int[] {0, 0, 2, 4, 4}, 3);
        Check.due("19: nothing changes", x.person(0, 0), 10);
        x.build(1, 0, 0, true);
        row(x, 0, new int[] {0, 4}, 2);
        Check.due("19: unknown", x.stands(1, 6, 0), Check.UNKNOWN);
        Check.due("19: unknown below", x.stands(-1, 1, 0), Check.UNKNOWN);
        Check.due("19: n", x.stands(0, 0, 0), Check.OUTSIDE);
        Check.due("19: n above", x.stands(0, 6, 0), Check.OUTSIDE);
        Check.due("19: far too many", x.stands(0, 5, Integer.MAX_VALUE), Check.NONE);
        x = Check.townOf("t1 1 0;p0 0 300 60 0;");
        row(x, 0, new int[] {0, 0, 0, 0, 0}, 0);
        x = Check.townOf("t3 1 100;p1 0 0 1 0;");
        x.law(2);
        row(x, 0, new int[] {0, 0, 0}, 1);
    }

    private static void lightFor() {
        FirstFelt x = Check.townOf(RIVALS);
        Check.due("20: the first one must wait", x.lightFor(0, 0, 4), 3);
        Check.due("20: as long in 30", x.lightFor(0, 0, 30), 3);
        Check.due("20: too few", x.lightFor(0, 0, 3), Check.NONE);
        Check.due("20: the second need not", x.lightFor(1, 0, 4), 0);
        Check.due("20: nothing changes", x.stove(0, 3), 0);
        Check.due("20: unknown", x.lightFor(2, 0, 0), Check.UNKNOWN);
        Check.due("20: unknown stove", x.lightFor(0, 1, 0), Check.UNKNOWN);
        Check.due("20: n", x.lightFor(0, 0, 0), Check.OUTSIDE);
        Check.due("20: n above", x.lightFor(0, 0, 31), Check.OUTSIDE);
        x.light(0);
        Check.due("20: it burns", x.lightFor(0, 0, 4), Check.NOT);
        Check.due("20: outside ahead of not", x.lightFor(0, 0, 31), Check.OUTSIDE);
        x = Check.townOf("t1 1 10;o0 0 60 9;p0 0 50 20 0;");
        Check.due("20: not in one", x.lightFor(0, 0, 1), Check.NONE);
        Check.due("20: in two", x.lightFor(0, 0, 2), 0);
        x = Check.townOf("t1 1 49;o0 0 60 9;p0 0 40 5 0;p0 0 30 60 0;");
        Check.due("20: best not at all", x.lightFor(0, 0, 1), 1);
        Check.due("20: for the other at once", x.lightFor(1, 0, 1), 0);
        x = Check.townOf("t1 1 100;o0 0 60 0;p0 0 0 1 0;");
        Check.due("20: no wood", x.lightFor(0, 0, 1), Check.NOT);
    }

    private static void keptOut() {
        FirstFelt x = Check.townOf(RIVALS);
        Check.due("21: the rival", x.keptOut(0, 0, 2), 1);
        Check.due("21: too few", x.keptOut(0, 0, 1), Check.NONE);
        Check.due("21: nobody need be", x.keptOut(1, 0, 2), Check.NONE);
        Check.due("21: nothing changes", x.stove(0, 3), 0);
        Check.due("21: unknown", x.keptOut(2, 0, 0), Check.UNKNOWN);
        Check.due("21: unknown stove", x.keptOut(0, -1, 0), Check.UNKNOWN);
        Check.due("21: n", x.keptOut(0, 0, 0), Check.OUTSIDE);
        Check.due("21: n above", x.keptOut(0, 0, 31), Check.OUTSIDE);
        x.light(0);
        Check.due("21: it burns", x.keptOut(0, 0, 2), Check.NOT);
        x = Check.townOf(RIVALS + "p0 0 40 35 0;");
        Check.due("21: two rivals", x.keptOut(0, 0, 2), Check.NONE);
    }

    private static void gain() {
        FirstFelt x = Check.townOf("t2 1 49;o0 0 60 9;p1 0 40 12 0;p0 0 300 60 0;");
        x.light(0);
        Check.due("22: a loss", x.gain(0, 0, 0, 0, 2), -1);
        Check.due("22: not yet", x.gain(0, 0, 0, 0, 1), 0);
        x.build(0, 0, 0, true);
        Check.due("22: though it is there", x.gain(0, 0, 0, 0, 2), -1);
        Check.due("22: it still is", x.wall(0, 0, 0), 1);
        Check.due("22: unknown", x.gain(2, 0, 0, 2, 2), Check.UNKNOWN);
        Check.due("22: no cell", x.gain(0, 2, 0, 2, 2), Check.UNKNOWN);
        Check.due("22: no cell there", x.gain(0, 1, 0, 0, 0), Check.UNKNOWN);
        Check.due("22: no cell to the south", x.gain(0, 0, 0, 1, 2), Check.UNKNOWN);
        Check.due("22: d", x.gain(0, 0, 0, 2, 2), Check.OUTSIDE);
        Check.due("22: n", x.gain(0, 0, 0, 0, 0), Check.OUTSIDE);
        Check.due("22: n above", x.gain(0, 0, 0, 0, 61), Check.OUTSIDE);
        x = Check.townOf("t2 1 49;o0 0 20 99;p0 0 49 33 0;");
        x.light(0);
        // He needs 82, then 86: 87 with the wall, 85 without it.
        Check.due("22: a gain", x.gain(0, 0, 0, 0, 2), 1);
    }

    private static void rents() {
        FirstFelt x = new FirstFelt();
        Check.due("23: no rounds", x.rents(Check.NONE), 0);
        Check.due("23: nobody", x.rents(0), Check.UNKNOWN);
        Check.due("23: below NONE", x.rents(-2), Check.UNKNOWN);
        x = Check.townOf("t1 1 102;p0 0 0 1 0;p0 0 50 1 0;");
        Check.due("23: nobody owns", x.rents(Check.NONE), 0);
        x.minute(1);
        Check.due("23: a round", x.rents(Check.NONE), 1);
        Check.due("23: 100 / 50", x.rents(0), 2);
        Check.due("23: he owns nothing", x.rents(1), 0);
        Check.due("23: unknown", x.rents(2), Check.UNKNOWN);
        x = Check.townOf("t2 1 200;p0 0 0 1 0;p1 0 0 1 0;");
        x.minute(1);
        Check.due("23: each would be let for nothing alone", x.rents(Check.NONE), 0);
        Check.due("23: nothing", x.rents(0), 0);
        x.build(0, 0, 0, true);
        Check.due("23: a wall between", x.rents(Check.NONE), 1);
        Check.due("23: three", x.rents(0), 3);
        Check.due("23: three, too", x.rents(1), 3);
        rentsWithTwoCells();
        rentsWithoutEnd();
    }

    /** The first one has a cell that nobody is beside: he asks, and the other one may follow. */
    private static void rentsWithTwoCells() {
        FirstFelt x = Check.townOf("t3 1 200;p0 0 0 1 0;p2 0 0 1 0;");
        x.minute(1);
        x.go(0, 2);
        x.minute(1);
        Check.due("23: he has two", x.person(0, 6), 2);
        Check.due("23: both rounds", x.rents(Check.NONE), 1);
        Check.due("23: the first", x.rents(0), 3);
        Check.due("23: no rent beside is less", x.rents(1), 3);
    }

    /**
     * Heat from north to south 97 beside 112, then 184, 117, 195; owners 0 beside 1, then 1, 2, 2. From the third round
     * on the second one asks 1 and 3 by turns, the third one 3 and 2. The town was found by a search, and its heats are the
     * program's and PlainTown's; only the rounds were gone through by hand.
     */
    private static void rentsWithoutEnd() {
        FirstFelt x = Check.townOf("t5 4 99;w0 2 1;w2 2 0;w0 0 1;w2 2 1;w0 1 1;o3 3 60 99;o3 1 55 99;o0 0 42 99;"
                + "p2 0 21 1 0;p3 1 24 2 9;p3 3 22 3 6;");
        x.seed(802697);
        for (int k = 0; k < 3; k++) {
            x.light(k);
        }
        x.drift(2);
        for (int p = Check.NONE; p < 3; p++) {
            Check.due("23: no end, " + p, x.rents(p), Check.NONE);
        }
        Check.due("23: unknown all the same", x.rents(3), Check.UNKNOWN);
    }

    private static void claims() {
        FirstFelt x = Check.townOf("t2 1 51;p0 0 40 10 0;p1 0 0 4 0;");
        Check.due("25: none", x.forged(), 0);
        Check.due("24: so", x.claim(0, 0, 0), 1);
        Check.due("24: not so", x.claim(0, 0, 1), 2);
        Check.due("24: elsewhere", x.claim(0, 10, 0), 3);
        Check.due("24: another's", x.claim(1, 10, 0), 4);
        Check.due("24: late", x.claim(1, 10, 59), 5);
        Check.due("25: forged", x.forged(), 2 + 4 + 16);
        Check.due("25: nothing changes", x.told(8), 0);
        Check.due("24: unknown", x.claim(2, 0, 99), Check.UNKNOWN);
        Check.due("24: unknown cell", x.claim(0, 20, 99), Check.UNKNOWN);
        Check.due("24: no pair", x.claim(0, 1, 0), Check.UNKNOWN);
        Check.due("24: pair below", x.claim(0, -1, 0), Check.UNKNOWN);
        Check.due("24: pair far below", x.claim(0, Integer.MIN_VALUE, 0), Check.UNKNOWN);
        Check.due("24: m below", x.claim(0, 0, -1), Check.OUTSIDE);
        Check.due("24: m above", x.claim(0, 0, 60), Check.OUTSIDE);
        for (int i = 6; i <= 12; i++) {
            Check.due("24: one more", x.claim(0, 0, 0), i);
        }
        Check.due("24: full", x.claim(0, 0, 0), Check.FULL);
        Check.due("24: outside ahead of full", x.claim(0, 0, 60), Check.OUTSIDE);
        Check.due("25: the last are so", x.forged(), 2 + 4 + 16);
        x.minute(1);
        Check.due("25: from now on", x.forged(), 0xff7);
    }

    private static void cold() {
        FirstFelt x = Check.townOf("t2 1 0;w0 0 0;o0 0 60 1;p0 0 10 1 0;p0 0 7 60 0;");
        x.light(0);
        x.minute(1);
        Check.due("26: none froze", x.told(12), 0);
        Check.due("26: nowhere to go", x.cold(0, 1), 0);
        x.build(0, 0, 0, false);
        for (int v = 0; v <= 3; v++) {
            Check.due("26: he must go where it is cold", x.cold(v, 1), 1);
        }
        Check.due("26: nothing changes", x.person(1, 0), 0);
        Check.due("26: law as it was", x.told(9), 0);
        Check.due("26: law", x.cold(4, 1), Check.OUTSIDE);
        Check.due("26: law below", x.cold(-1, 1), Check.OUTSIDE);
        Check.due("26: n", x.cold(0, 0), Check.OUTSIDE);
        Check.due("26: n above", x.cold(0, 61), Check.OUTSIDE);
        // The same with the owner behind the other one, and the cold cell to the west, the north, the south.
        String[] others = {"t2 1 0;o1 0 60 1;p1 0 7 60 0;p1 0 10 1 0;", "t1 2 0;o0 1 60 1;p0 1 7 60 0;p0 1 10 1 0;",
            "t1 2 0;o0 0 60 1;p0 0 7 60 0;p0 0 10 1 0;"};
        for (String other : others) {
            x = Check.townOf(other);
            x.light(0);
            x.minute(1);
            Check.due("26: he must go, " + other, x.cold(0, 1), 1);
        }
        x = Check.townOf("t1 1 0;p0 0 100 1 0;p0 0 24 1 0;");
        Check.due("26: both in time", x.cold(0, 60), 2);
        Check.due("26: one at first", x.cold(0, 1), 1);
    }

    /** By law 2 the first one's cell is nobody's as he has left it; by law 3 the other one is his partner. */
    private static void mildest() {
        FirstFelt x = Check.townOf("t2 1 0;o0 0 40 9;p0 0 30 1 0;p1 0 5 60 0;");
        x.light(0);
        x.minute(1);
        Check.due("27: go", x.go(0, 2), 10);
        Check.due("27: come", x.go(1, 4), 0);
        Check.due("26: law 0", x.cold(0, 2), 1);
        Check.due("26: law 1", x.cold(1, 2), 1);
        Check.due("26: law 2", x.cold(2, 2), 0);
        Check.due("26: law 3", x.cold(3, 2), 0);
        Check.due("27: the least of the mild ones", x.mildest(2), 2);
        Check.due("27: of like ones the least", x.mildest(1), 0);
        x.go(0, 4);
        Check.due("26: law 2, he is back", x.cold(2, 2), 1);
        Check.due("27: only as partners", x.mildest(2), 3);
        Check.due("27: n", x.mildest(0), Check.OUTSIDE);
        Check.due("27: n above", x.mildest(61), Check.OUTSIDE);
        Check.due("27: without cells", new FirstFelt().mildest(60), 0);
    }

    private static void deeds() {
        FirstFelt x = Check.townOf(RIVALS);
        Check.due("29: no deeds", x.wasLit(0, Check.NONE), 60);
        Check.due("29: the last", x.wasLit(0, 59), 59);
        Check.due("29: one too many", x.wasLit(0, 60), Check.NONE);
        Check.due("28: one", x.deed(0, 0, 5), 1);
        Check.due("29: two fit", x.wasLit(0, Check.NONE), 2);
        Check.due("29: the first", x.wasLit(0, 0), 3);
        Check.due("29: the second", x.wasLit(0, 1), 4);
        Check.due("29: not so many", x.wasLit(0, 2), Check.NONE);
        x.tear();
        Check.due("28: another", x.deed(1, 0, 3), 1);
        Check.due("29: three fit", x.wasLit(0, Check.NONE), 3);
        Check.due("29: the last of them", x.wasLit(0, 2), 2);
        Check.due("28: both", x.deed(0, 0, 5), 2);
        Check.due("29: none fits both", x.wasLit(0, Check.NONE), 0);
        Check.due("29: nothing changes", x.told(8), 0);
        Check.due("28: unknown", x.deed(2, 0, 0), Check.UNKNOWN);
        Check.due("28: unknown cell", x.deed(0, 10, 0), Check.UNKNOWN);
        Check.due("28: pair below", x.deed(0, -10, 1), Check.UNKNOWN);
        Check.due("28: m", x.deed(0, 0, 0), Check.OUTSIDE);
        Check.due("28: m above", x.deed(0, 0, 61), Check.OUTSIDE);
        for (int i = 3; i <= 8; i++) {
            Check.due("28: one more", x.deed(0, 0, 60), i);
        }
        Check.due("28: full", x.deed(0, 0, 60), Check.FULL);
        Check.due("28: outside ahead of full", x.deed(0, 0, 61), Check.OUTSIDE);
        Check.due("29: unknown", x.wasLit(1, Check.NONE), Check.UNKNOWN);
        Check.due("29: unknown below", x.wasLit(-1, Check.NONE), Check.UNKNOWN);
        x.light(0);
        Check.due("29: it burns", x.wasLit(0, Check.NONE), Check.NOT);
        x.minute(9);
        Check.due("29: no wood", x.wasLit(0, Check.NONE), Check.NOT);
        x = Check.townOf("t1 1 10;o0 0 60 9;p0 0 50 20 0;");
        x.deed(0, 0, 2);
        // Behind a minute his skin is 40, so that the first minute's 69 are enough.
        Check.due("29: now and next", x.wasLit(0, Check.NONE), 2);
        Check.due("29: now", x.wasLit(0, 0), 0);
        Check.due("29: next", x.wasLit(0, 1), 1);
        x.deed(0, 0, 1);
        Check.due("29: too early", x.wasLit(0, Check.NONE), 0);
    }

    private static void tear() {
        FirstFelt x = Check.townOf(RIVALS);
        x.claim(0, 0, 0);
        x.claim(1, 0, 0);
        x.deed(0, 0, 5);
        Check.due("30: both", x.tear(), 3);
        Check.due("30: no claims", x.told(13), 0);
        Check.due("30: no deeds", x.told(14), 0);
        Check.due("30: none", x.tear(), 0);
        Check.due("30: none is forged", x.forged(), 0);
    }

    private static void seed() {
        FirstFelt x = new FirstFelt();
        Check.due("31: 0 at first", x.seed(Integer.MAX_VALUE), 0);
        Check.due("31: what it was", x.seed(7), Integer.MAX_VALUE);
        Check.due("31: below", x.seed(-1), Check.OUTSIDE);
        Check.due("31: far below", x.seed(Integer.MIN_VALUE), Check.OUTSIDE);
        Check.due("31: as it was", x.seed(0), 7);
        x = Check.townOf("t1 1 0;");
        x.seed(Integer.MAX_VALUE);
        x.drift(1);
        Check.due("31: the most drawn from", x.seed(0), 1043980748);
    }

    private static void images() {
        FirstFelt x = Check.townOf("t2 1 100;o0 0 60 9;p0 0 0 1 0;p0 0 30 1 0;");
        Check.due("33: not kept", x.goBack(0), Check.NOT);
        Check.due("33: unknown", x.goBack(2), Check.UNKNOWN);
        Check.due("33: unknown below", x.goBack(-1), Check.UNKNOWN);
        Check.due("32: unknown", x.keep(2), Check.UNKNOWN);
        Check.due("32: unknown below", x.keep(-1), Check.UNKNOWN);
        Check.due("32: kept", x.keep(0), 1);
        x.seed(5);
        x.law(3);
        x.last(9);
        x.build(0, 0, 0, true);
        x.light(0);
        x.minute(2);
        x.go(1, 3);
        x.claim(0, 0, 0);
        Check.due("32: the other", x.keep(1), 1);
        Check.due("33: back", x.goBack(0), 1);
        int[] first = {0, 100, Check.NONE, 0, 0, 9, 0, 0, 3, 0, 0, 0};
        same(x, "first", first);
        Check.due("33: the seed", x.seed(1), 0);
        Check.due("33: claims stay", x.told(13), 1);
        Check.due("33: the other one", x.goBack(1), 1);
        // 160 - 3 is 157, then 217 - 4.
        int[] second = {2, 213, 0, 1, 1, 7, 2, 3, 9, 0, 0, 0};
        same(x, "second", second);
        Check.due("33: the seed of the other", x.seed(0), 5);
        Check.due("33: once more", x.goBack(0), 1);
        Check.due("33: as often as one likes", x.told(8), 0);
        Check.due("32: without a town", new FirstFelt().keep(0), 1);
    }

    private static void same(FirstFelt x, String name, int[] want) {
        int[] got = {x.told(8), x.cell(0, 0, 0), x.cell(0, 0, 1), x.wall(0, 0, 0), x.stove(0, 3), x.stove(0, 2),
            x.person(0, 7), x.told(9), x.told(10), x.told(12), x.person(0, 4), x.person(1, 5)};
        for (int i = 0; i < want.length; i++) {
            Check.due("33: " + name + " image, " + i, got[i], want[i]);
        }
    }
}
