import java.util.LinkedHashMap;
import java.util.List;
import java.util.Map;
import java.util.function.ToIntFunction;

/** Boundaries that part 3, TRIED, and promises 18 to 30 name; numbers were reckoned by hand, but where told. */
public final class EdgesOfTriedTest {
    /**
     * Without the stove heat stays 49; in the minute in which it is lit it is 78. The skins ahead of minutes 0 to 3 are
     * 100, 88, 79, 72 and 40, 42, 43, 44: the second one feels 78 till minute 2, the first one from minute 3 on.
     */
    private static final String RIVALS = "t1 1 49;o0 0 30 9;p0 0 100 5 0;p0 0 40 35 0;";

    public static void main(String[] args) {
        Edges.runAll(EdgesOfTriedTest.class);
    }

    @Says("TRIED from now, all staying where they are, stoves burning as they do; nothing changes by it.")
    static void nothingChangesByTrying() {
        Map<String, ToIntFunction<FirstFelt>> tries = new LinkedHashMap<>();
        tries.put("then", x -> x.then(0, 0, 60, 1));
        tries.put("stands", x -> x.stands(0, 5, 4));
        tries.put("lightFor", x -> x.lightFor(2, 1, 30));
        tries.put("keptOut", x -> x.keptOut(2, 1, 30));
        tries.put("gain", x -> x.gain(0, 0, 0, 0, 60));
        tries.put("gain by no wall", x -> x.gain(0, 0, 0, 1, 60));
        tries.put("rents", x -> x.rents(0));
        tries.put("forged", x -> x.forged());
        tries.put("cold", x -> x.cold(3, 60));
        tries.put("mildest", x -> x.mildest(60));
        tries.put("wasLit", x -> x.wasLit(1, -1));
        for (Map.Entry<String, ToIntFunction<FirstFelt>> one : tries.entrySet()) {
            FirstFelt x = Check.townOf("t2 2 60;w0 0 0;o0 0 60 9;o1 1 50 9;s9,0;p0 0 9 1 3;p0 0 90 60 0;p1 1 0 9 1;");
            x.light(0);
            x.law(1);
            x.minute(3);
            x.claim(0, 0, 0);
            x.claim(1, 0, 40);
            x.deed(2, 11, 60);
            List<Integer> before = Edges.look(x);
            int answer = one.getValue().applyAsInt(x);
            Check.due(one.getKey() + " is answered with " + answer, answer > -1000000000 ? 1 : 0, 1);
            Edges.same(one.getKey(), before, Edges.look(x));
            Check.due(one.getKey() + " answers the same again", one.getValue().applyAsInt(x), answer);
        }
        // Stoves burn as they do: two minutes' wood, then none; the one that is out stays out.
        FirstFelt x = Check.townOf("t2 1 0;w0 0 0;o0 0 10 2;o1 0 10 9;");
        x.light(0);
        int[] heats = {10, 20, 20};
        for (int n = 1; n <= 3; n++) {
            Check.due("burning, " + n, x.then(0, 0, n, 0), heats[n - 1]);
            Check.due("out, " + n, x.then(1, 0, n, 0), 0);
        }
    }

    @Says("THEN: behind n minutes (1 .. 60): HEAT of a CELL, who OWNS it.")
    static void thenBehindMinutes() {
        FirstFelt x = Check.townOf("t1 1 0;s0,1;p0 0 0 30 0;");
        Check.due("0", x.then(0, 0, 0, 0), Check.OUTSIDE);
        Check.due("61", x.then(0, 0, 61, 0), Check.OUTSIDE);
        // Each second hour gives 1 in each of its six minutes; he never feels, as his skin follows.
        int[] minutes = {1, 6, 7, 12, 13, 59, 60};
        int[] heats = {0, 0, 1, 6, 6, 29, 30};
        for (int i = 0; i < minutes.length; i++) {
            Check.due("heat behind " + minutes[i], x.then(0, 0, minutes[i], 0), heats[i]);
        }
        Check.due("nobody", x.then(0, 0, 60, 1), Check.NONE);
        // His skin is 0 till the first sun: 30 are felt in minute 6, the seventh.
        x = Check.townOf("t1 1 0;s0,30;p0 0 0 30 0;");
        Check.due("nobody's behind 6", x.then(0, 0, 6, 1), Check.NONE);
        Check.due("his behind 7", x.then(0, 0, 7, 1), 0);
    }

    @Says("THEN: what = 0 HEAT, 1 who OWNS it (NONE). UNKNOWN, OUTSIDE.")
    static void p18Then() {
        FirstFelt x = Check.townOf("t2 1 100;p0 0 0 1 0;");
        Check.due("heat", x.then(1, 0, 1, 0), 98);
        Check.due("his", x.then(0, 0, 1, 1), 0);
        Check.due("nobody's", x.then(1, 0, 1, 1), Check.NONE);
        Check.due("what 2", x.then(0, 0, 1, 2), Check.OUTSIDE);
        Check.due("what -1", x.then(0, 0, 1, -1), Check.OUTSIDE);
        Check.due("n 0", x.then(0, 0, 0, 1), Check.OUTSIDE);
        Check.due("n 61", x.then(0, 0, 61, 1), Check.OUTSIDE);
        Check.due("X of W", x.then(2, 0, 1, 0), Check.UNKNOWN);
        Check.due("Y of H", x.then(0, 1, 1, 0), Check.UNKNOWN);
        Check.due("X below 0", x.then(-1, 0, 1, 0), Check.UNKNOWN);
        Check.due("Y below 0", x.then(0, -1, 1, 0), Check.UNKNOWN);
    }

    private static void row(FirstFelt x, int p, int cells, int... ways) {
        int n = ways.length;
        Check.due("cells in " + n, x.stands(p, n, Check.NONE), cells);
        for (int i = 0; i < n; i++) {
            Check.due("way " + i + " of " + n, x.stands(p, n, i), ways[i]);
        }
        Check.due("no way " + n + " of " + n, x.stands(p, n, n), Check.NONE);
    }

    @Says("STANDS of a PERSON in n minutes (1 .. 5; ahead of each he stays or goes a way, as told by WAYS 0 to 4; all others stay):")
    static void standsInOneToFiveMinutes() {
        FirstFelt x = Check.townOf("t6 1 200;p0 0 0 1 0;");
        Check.due("0", x.stands(0, 0, Check.NONE), Check.OUTSIDE);
        Check.due("6", x.stands(0, 6, Check.NONE), Check.OUTSIDE);
        row(x, 0, 1, 0);
        row(x, 0, 5, 0, 2, 2, 2, 2);
        // Ahead of each minute: the first, too. The other one stays and owns where he is.
        x = Check.townOf("t3 1 200;p0 0 0 60 0;p0 0 0 1 0;");
        row(x, 1, 1, 2);
        row(x, 0, 1, 0);
        row(x, 1, 2, 2, 2);
    }

    @Says("the most CELLS he OWNS then; of like ones the first row (the lesser WAY first; 0 stays, 1 north, 2 east, 3 south, 4 west,"
            + " not off the town, not through WALLS);")
    static void standsTheFirstRowOfTheMost() {
        FirstFelt x = Check.townOf("t3 3 200;p1 1 0 1 0;");
        int[][] walls = {{1, 0, 1}, {1, 1, 0}, {1, 1, 1}, {0, 1, 0}};
        for (int way = 1; way <= 4; way++) {
            row(x, 0, 1, 0);
            row(x, 0, 2, 0, way);
            x.build(walls[way - 1][0], walls[way - 1][1], walls[way - 1][2], true);
        }
        row(x, 0, 1, 0, 0);
        // The corners, of which two ways lead off the town.
        x = Check.townOf("t2 2 200;p0 0 0 1 0;p1 0 0 1 0;p0 1 0 1 0;p1 1 0 1 0;");
        for (int p = 0; p < 4; p++) {
            row(x, p, 1, 0);
        }
        x = Check.townOf("t2 2 200;p0 0 0 1 0;");
        row(x, 0, 4, 0, 2, 3, 4);
        x.go(0, 2);
        row(x, 0, 4, 0, 3, 4, 1);
        x.go(0, 3);
        row(x, 0, 4, 0, 1, 4, 3);
        x.go(0, 4);
        row(x, 0, 4, 0, 1, 2, 3);
        // Walls hold in the last cell of 20 as well.
        row(Check.townOf("t5 4 200;w3 3 0;w4 2 1;p4 3 0 1 0;"), 0, 1, 0, 0);
        row(Check.townOf("t5 4 200;w4 2 1;p4 3 0 1 0;"), 0, 2, 0, 4);
        row(Check.townOf("t5 4 200;w3 3 0;p4 3 0 1 0;"), 0, 2, 0, 1);
        // From the middle of three a row that does not begin with staying owns more.
        row(Check.townOf("t3 1 200;p1 0 0 1 0;"), 0, 3, 2, 4, 4);
        // Nothing to own: the first row of all is to stay.
        row(Check.townOf("t3 3 0;p1 1 0 1 0;"), 0, 0, 0, 0, 0, 0, 0);
        // Those that he OWNS then: by law 2 it is one, wherever he goes.
        x = Check.townOf("t3 1 200;p0 0 0 1 0;");
        x.law(2);
        row(x, 0, 1, 0, 0, 0);
        // Those of before count, too.
        x = Check.townOf("t3 1 200;p0 0 0 1 0;");
        x.minute(1);
        row(x, 0, 2, 2);
    }

    @Says("the WAY ahead of minute i.")
    static void standsTellsTheWayAheadOfMinuteI() {
        FirstFelt x = Check.townOf("t2 2 200;p0 0 0 1 0;");
        int[] ways = {0, 2, 3, 4};
        for (int i = 0; i < 4; i++) {
            Check.due("minute " + i, x.stands(0, 4, i), ways[i]);
        }
        Check.due("no minute 4", x.stands(0, 4, 4), Check.NONE);
    }

    @Says("STANDS: i = NONE how many CELLS, else the WAY ahead of minute i (NONE: not so many). UNKNOWN, OUTSIDE.")
    static void p19Stands() {
        FirstFelt x = Check.townOf("t1 1 0;p0 0 0 1 0;");
        Check.due("how many", x.stands(0, 5, Check.NONE), 0);
        Check.due("the last way", x.stands(0, 5, 4), 0);
        Check.due("not so many", x.stands(0, 5, 5), Check.NONE);
        Check.due("far from so many", x.stands(0, 5, Integer.MAX_VALUE), Check.NONE);
        // No bounds of i are told, so that there is no way ahead of a minute below 0 either.
        Check.due("below NONE", x.stands(0, 5, -2), Check.NONE);
        Check.due("far below NONE", x.stands(0, 5, Integer.MIN_VALUE), Check.NONE);
        Check.due("of one", x.stands(0, 1, 0), 0);
        Check.due("not so many as one", x.stands(0, 1, 1), Check.NONE);
        Check.due("nobody", x.stands(1, 1, 0), Check.UNKNOWN);
        Check.due("nobody below", x.stands(-1, 1, 0), Check.UNKNOWN);
        Check.due("n 0", x.stands(0, 0, 0), Check.OUTSIDE);
        Check.due("n 6", x.stands(0, 6, 0), Check.OUTSIDE);
        Check.due("n 6, how many", x.stands(0, 6, Check.NONE), Check.OUTSIDE);
        Check.due("n 0, not so many", x.stands(0, 0, 5), Check.OUTSIDE);
    }

    @Says("LIGHT for a PERSON and a STOVE that is out, has WOOD: minutes k of 0 to n (n 1 .. 30) to wait till it is lit,"
            + " so that he OWNS its CELL behind n minutes: the least; NONE.")
    static void lightTheLeastWaiting() {
        FirstFelt x = Check.townOf(RIVALS);
        Check.due("for the second one at once", x.lightFor(1, 0, 1), 0);
        Check.due("for the first one in 3", x.lightFor(0, 0, 4), 3);
        Check.due("as early in 30", x.lightFor(0, 0, 30), 3);
        Check.due("behind 3 it is too late", x.lightFor(0, 0, 3), Check.NONE);
        Check.due("0", x.lightFor(0, 0, 0), Check.OUTSIDE);
        Check.due("31", x.lightFor(0, 0, 31), Check.OUTSIDE);
        // k of n: the stove is lit behind all minutes. 49 he feels alone, 107 the other one feels, too, with less skin.
        x = Check.townOf("t1 1 49;o0 0 60 9;p0 0 40 5 0;p0 0 30 60 0;");
        Check.due("k is n", x.lightFor(0, 0, 1), 1);
        // He owns it already: 0 is the least.
        x = Check.townOf("t1 1 100;o0 0 60 9;p0 0 0 1 0;");
        x.minute(1);
        Check.due("his already", x.lightFor(0, 0, 30), 0);
        // The stove's cell, not his own.
        x = Check.townOf("t2 1 100;o0 0 60 9;p1 0 0 1 0;");
        Check.due("he is elsewhere", x.lightFor(0, 0, 30), Check.NONE);
        // From minute 24 on the sun makes 58 of 49, which only the second one feels; 107 and more the first one feels, too.
        x = Check.townOf("t1 1 49;o0 0 60 9;s0,0,0,0,10,0;p0 0 49 50 0;p0 0 49 5 0;");
        Check.due("behind minute 24", x.lightFor(1, 0, 30), 25);
        Check.due("k is n of 25", x.lightFor(1, 0, 25), 25);
        Check.due("not by 24", x.lightFor(1, 0, 24), Check.NONE);
    }

    @Says("LIGHT; NONE. UNKNOWN, OUTSIDE, NOT: it burns, has no WOOD.")
    static void p20LightFor() {
        FirstFelt x = Check.townOf("t2 1 49;o0 0 60 1;o1 0 60 0;p0 0 0 1 0;");
        Check.due("at once", x.lightFor(0, 0, 1), 0);
        Check.due("it has no wood", x.lightFor(0, 1, 1), Check.NOT);
        Check.due("nobody", x.lightFor(1, 0, 1), Check.UNKNOWN);
        Check.due("nobody below", x.lightFor(-1, 0, 1), Check.UNKNOWN);
        Check.due("no stove", x.lightFor(0, 2, 1), Check.UNKNOWN);
        Check.due("no stove below", x.lightFor(0, -1, 1), Check.UNKNOWN);
        Check.due("n 0", x.lightFor(0, 0, 0), Check.OUTSIDE);
        Check.due("n 31", x.lightFor(0, 0, 31), Check.OUTSIDE);
        Check.due("n 30", x.lightFor(0, 0, 30), 0);
        x.light(0);
        Check.due("it burns", x.lightFor(0, 0, 1), Check.NOT);
        x.minute(1);
        Check.due("it burnt down", x.lightFor(0, 0, 1), Check.NOT);
    }

    @Says("KEPT OUT: the least other PERSON, who, if he FELT nothing, would let him OWN it so, the STOVE being lit now;")
    static void keptOutTheLeast() {
        FirstFelt x = Check.townOf(RIVALS);
        // Lit now heat is 78, then 106: without the second one the first one feels it in the second minute, 95 and 5.
        Check.due("the rival", x.keptOut(0, 0, 2), 1);
        Check.due("not in one minute", x.keptOut(0, 0, 1), Check.NONE);
        // Two rivals: without one of them the other one owns it.
        x = Check.townOf(RIVALS + "p0 0 40 35 0;");
        Check.due("two would have to be", x.keptOut(0, 0, 2), Check.NONE);
        // Either of two would do (found by a search): by law 1 the last one owns it first, then the first one, then nobody
        // till the second one could; without one of them it is nobody's again in time.
        x = Check.townOf("t1 1 8;o0 0 46 4;p0 0 92 4 0;p0 0 90 3 0;p0 0 35 33 1;");
        x.law(1);
        x.last(1);
        Check.due("of two the least", x.keptOut(1, 0, 11), 0);
        x = Check.townOf("t1 1 50;o0 0 26 3;p0 0 77 1 1;p0 0 7 56 1;p0 0 69 13 1;");
        x.law(1);
        x.last(1);
        Check.due("of two others the least", x.keptOut(0, 0, 11), 1);
        // Who is kept out owned it and felt in minute 0: by law 1 it is nobody's in minute 4, the other one's in minute 5.
        x = Check.townOf("t1 1 49;o0 0 60 1;p0 0 0 1 0;p0 0 40 1 0;");
        x.law(1);
        x.minute(1);
        Check.due("he owns", x.cell(0, 0, 1), 0);
        Check.due("behind 4 it is nobody's", x.keptOut(1, 0, 4), Check.NONE);
        Check.due("behind 5 it is the other one's", x.keptOut(1, 0, 5), 0);
    }

    @Says("NONE (also if nobody need be).")
    static void keptOutNobodyNeedBe() {
        FirstFelt x = Check.townOf(RIVALS);
        Check.due("nobody need be", x.keptOut(1, 0, 2), Check.NONE);
        x = Check.townOf("t1 1 100;o0 0 60 9;p0 0 0 1 0;");
        Check.due("he is alone", x.keptOut(0, 0, 30), Check.NONE);
        x = Check.townOf("t1 1 0;o0 0 1 1;p0 0 300 60 0;p0 0 300 60 0;");
        Check.due("nobody helps", x.keptOut(0, 0, 30), Check.NONE);
        // Though another one, kept out, would not harm: who need not be is not told.
        x = Check.townOf("t1 1 100;o0 0 60 9;p0 0 9 1 0;p0 0 0 1 0;");
        Check.due("nobody need be for the second", x.keptOut(1, 0, 1), Check.NONE);
        Check.due("the second must be for the first", x.keptOut(0, 0, 1), 1);
    }

    @Says("KEPT OUT; NONE. UNKNOWN, OUTSIDE (n 1 .. 30), NOT: it burns, has no WOOD.")
    static void p21KeptOut() {
        FirstFelt x = Check.townOf("t2 1 49;o0 0 60 1;o1 0 60 0;p0 0 1 1 0;p0 0 0 1 0;");
        Check.due("1", x.keptOut(0, 0, 1), 1);
        Check.due("30", x.keptOut(0, 0, 30), 1);
        Check.due("0", x.keptOut(0, 0, 0), Check.OUTSIDE);
        Check.due("31", x.keptOut(0, 0, 31), Check.OUTSIDE);
        Check.due("it has no wood", x.keptOut(0, 1, 1), Check.NOT);
        Check.due("nobody", x.keptOut(2, 0, 1), Check.UNKNOWN);
        Check.due("nobody below", x.keptOut(-1, 0, 1), Check.UNKNOWN);
        Check.due("no stove", x.keptOut(0, 2, 1), Check.UNKNOWN);
        Check.due("no stove below", x.keptOut(0, -1, 1), Check.UNKNOWN);
        x.light(0);
        Check.due("it burns", x.keptOut(0, 0, 1), Check.NOT);
        x.minute(1);
        Check.due("it burnt down", x.keptOut(0, 0, 1), Check.NOT);
    }

    @Says("GAIN of a PERSON by a WALL: CELLS that he OWNS behind n minutes (1 .. 60) with that WALL there less those without it.")
    static void gainWithLessWithout() {
        // He needs 82, then 86: heat is 68 and 87 with the wall, 68 and 85 without it.
        FirstFelt x = Check.townOf("t2 1 49;o0 0 20 99;p0 0 49 33 0;");
        x.light(0);
        Check.due("in one minute none", x.gain(0, 0, 0, 0, 1), 0);
        Check.due("one more", x.gain(0, 0, 0, 0, 2), 1);
        x.build(0, 0, 0, true);
        Check.due("though it is there", x.gain(0, 0, 0, 0, 2), 1);
        Check.due("it is there as before", x.wall(0, 0, 0), 1);
        // Without it he feels a minute later: 99 to 61 and 33.
        Check.due("none in 3", x.gain(0, 0, 0, 0, 3), 0);
        Check.due("none in 60", x.gain(0, 0, 0, 0, 60), 0);
        Check.due("0", x.gain(0, 0, 0, 0, 0), Check.OUTSIDE);
        Check.due("61", x.gain(0, 0, 0, 0, 61), Check.OUTSIDE);
        // To the south the same, by the other number.
        x = Check.townOf("t1 2 49;o0 0 20 99;p0 0 49 33 0;");
        x.light(0);
        Check.due("a wall to the south", x.gain(0, 0, 0, 1, 2), 1);
        gainOfAnyWall();
    }

    /** The last of five needs 53 and 28 in the second minute: heat is 68, then 79, and with one wall on any side 81. */
    private static void gainOfAnyWall() {
        int[][] walls = {{3, 0, 1}, {3, 1, 0}, {3, 1, 1}, {2, 1, 0}};
        for (int[] wall : walls) {
            FirstFelt x = Check.townOf("t5 3 49;o3 1 20 99;" + "p0 0 49 60 0;".repeat(4) + "p3 1 49 28 0;");
            x.light(0);
            String which = "wall " + wall[0] + " " + wall[1] + " " + wall[2];
            Check.due(which, x.gain(4, wall[0], wall[1], wall[2], 2), 1);
            Check.due(which + ", for another one", x.gain(3, wall[0], wall[1], wall[2], 2), 0);
            x.build(wall[0], wall[1], wall[2], true);
            Check.due(which + ", though it is there", x.gain(4, wall[0], wall[1], wall[2], 2), 1);
            Check.due(which + " is there, one elsewhere", x.gain(4, 0, 1, 0, 2), 0);
        }
        // With 1 to notice he owns it anyway.
        FirstFelt x = Check.townOf("t5 3 49;o3 1 20 99;" + "p0 0 49 60 0;".repeat(4) + "p3 1 49 1 0;");
        x.light(0);
        for (int[] wall : walls) {
            Check.due("with it and without it", x.gain(4, wall[0], wall[1], wall[2], 2), 0);
        }
    }

    @Says("GAIN (may be below 0). UNKNOWN (no CELL there, too), OUTSIDE (d, n).")
    static void p22Gain() {
        // Heat beside the stove is 49, then 55: felt by 42 and 12, if no wall keeps it out.
        FirstFelt x = Check.townOf("t2 2 49;o0 0 60 9;p1 0 40 12 0;");
        x.light(0);
        Check.due("below 0", x.gain(0, 0, 0, 0, 2), -1);
        Check.due("nobody", x.gain(1, 0, 0, 0, 2), Check.UNKNOWN);
        Check.due("nobody below", x.gain(-1, 0, 0, 0, 2), Check.UNKNOWN);
        Check.due("no cell", x.gain(0, 2, 0, 0, 2), Check.UNKNOWN);
        Check.due("no cell below", x.gain(0, 0, -1, 0, 2), Check.UNKNOWN);
        Check.due("no cell to the east", x.gain(0, 1, 0, 0, 2), Check.UNKNOWN);
        Check.due("no cell to the south", x.gain(0, 0, 1, 1, 2), Check.UNKNOWN);
        Check.due("d 2", x.gain(0, 0, 0, 2, 2), Check.OUTSIDE);
        Check.due("d -1", x.gain(0, 0, 0, -1, 2), Check.OUTSIDE);
        Check.due("n 0", x.gain(0, 0, 0, 0, 0), Check.OUTSIDE);
        Check.due("n 61", x.gain(0, 0, 0, 0, 61), Check.OUTSIDE);
        Check.due("d 2, n 0", x.gain(0, 0, 0, 2, 0), Check.OUTSIDE);
    }

    /** A town whose cells, row by row, have that heat and those owners; put there, as few markets come of themselves. */
    private static FirstFelt market(int w, int h, int people, int[] heats, int[] owners) {
        FirstFelt x = Check.townOf("t" + w + " " + h + " 0;" + "p0 0 0 60 0;".repeat(people));
        for (int c = 0; c < w * h; c++) {
            Edges.put(x, "heat", c, heats[c]);
            Edges.put(x, "owner", c, owners[c]);
        }
        return x;
    }

    @Says("RENTS: each PERSON asks 0 to 9 a CELL that he OWNS now (0 at first);")
    static void rentsAreUpToNine() {
        int[] heats = {0, 49, 50, 449, 450, 499, 500, 999};
        int[] asks = {0, 0, 1, 8, 9, 9, 9, 9};
        for (int i = 0; i < heats.length; i++) {
            FirstFelt x = market(1, 1, 2, new int[] {heats[i]}, new int[] {1});
            Check.due("rent at " + heats[i], x.rents(1), asks[i]);
            Check.due("rounds at " + heats[i], x.rents(Check.NONE), asks[i] == 0 ? 0 : 1);
            Check.due("who owns nothing asks 0", x.rents(0), 0);
        }
        // 0 at first, so that nobody beside may ask more till another one does.
        FirstFelt x = market(2, 1, 2, new int[] {200, 200}, new int[] {0, 1});
        Check.due("each is beside one who asks 0", x.rents(Check.NONE), 0);
        Check.due("so it stays", x.rents(0) + x.rents(1), 0);
    }

    @Says("each CELL of somebody is let, if the rent there is no more than HEAT / 50, and no rent of the CELLS beside it"
            + " (no WALL between) that others OWN is less: he has the rent.")
    static void letIfNoRentBesideIsLess() {
        // The first one asks 2 for a cell of his own; the second one beside it may ask as much, not more.
        int[] heats = {149, 149, 299};
        FirstFelt x = market(3, 1, 2, heats, new int[] {0, 0, 1});
        Check.due("2 for the cell that is not beside one of 0", x.rents(0), 2);
        Check.due("as much is let", x.rents(1), 2);
        Check.due("a round", x.rents(Check.NONE), 1);
        x.build(1, 0, 0, true);
        Check.due("with a wall between, the first", x.rents(0), 2);
        Check.due("with a wall between, the second", x.rents(1), 5);
        // Nobody's cells and his own cells beside it do not count.
        x = market(3, 1, 2, heats, new int[] {Check.NONE, 0, 0});
        Check.due("beside nobody's and his own", x.rents(0), 5);
        // To the north and south, too.
        x = market(1, 3, 3, new int[] {299, 299, 299}, new int[] {0, 1, 2});
        Check.due("all beside one who asks 0", x.rents(Check.NONE), 0);
        x.build(0, 0, 1, true);
        Check.due("the first is walled off", x.rents(0), 5);
        Check.due("the second is not", x.rents(1), 0);
        x.build(0, 1, 1, true);
        Check.due("the second is walled off", x.rents(1), 5);
        Check.due("the third is walled off", x.rents(2), 5);
    }

    @Says("Rounds: PEOPLE in order ask what brings them most, others' as they are (of like ones the least),")
    static void whatBringsThemMost() {
        // 2 for one of them is as much as 1 for both.
        Check.due("of like ones the least", market(2, 1, 1, new int[] {100, 99}, new int[] {0, 0}).rents(0), 1);
        Check.due("3 for one is more", market(2, 1, 1, new int[] {150, 99}, new int[] {0, 0}).rents(0), 3);
        Check.due("2 for both is more", market(2, 1, 1, new int[] {150, 100}, new int[] {0, 0}).rents(0), 2);
        // In order: the second one asks by what the first one asks in the same round, so that one round is enough.
        FirstFelt x = market(3, 1, 2, new int[] {149, 149, 299}, new int[] {0, 0, 1});
        Check.due("in order", x.rents(Check.NONE), 1);
        // The other way round the first one sees 0 in the first round and 2 in the second.
        x = market(3, 1, 2, new int[] {149, 149, 299}, new int[] {1, 1, 0});
        Check.due("one round later", x.rents(Check.NONE), 2);
        Check.due("the same rents", x.rents(0) * 10 + x.rents(1), 22);
    }

    /**
     * Markets of 20 cells, found by a search, that settle behind so many rounds: {HEAT / 50, owner} of each cell, then its
     * walls, 1 to the east and 2 to the south.
     */
    private static FirstFelt longMarket(int w, int h, int[] caps, int[] owners, String walls) {
        int[] heats = new int[caps.length];
        for (int c = 0; c < caps.length; c++) {
            heats[c] = caps[c] * 50 + c;
        }
        FirstFelt x = market(w, h, 6, heats, owners);
        for (int c = 0; c < caps.length; c++) {
            int kind = walls.charAt(c) - '0';
            if ((kind & 1) != 0 && c % w + 1 < w) {
                x.build(c % w, c / w, 0, true);
            }
            if ((kind & 2) != 0 && c / w + 1 < h) {
                x.build(c % w, c / w, 1, true);
            }
        }
        return x;
    }

    @Says("till a round changes nothing (20 at most): rounds that changed something; what each asks;"
            + " NONE for all: the 20th changed something, too.")
    static void twentyRoundsAtMost() {
        FirstFelt x = longMarket(5, 4, new int[] {5, 4, 7, 7, 0, 0, 9, 1, 7, 1, 4, 7, 3, 4, 2, 6, 7, 2, 1, 8},
                new int[] {1, 2, 5, 1, 2, 0, 3, 3, 0, 1, 5, 4, 5, 4, 1, 4, 3, 4, 3, 0}, "11122131203323022033");
        Check.due("the 20th changed nothing", x.rents(Check.NONE), 19);
        for (int p = 0; p < 6; p++) {
            Check.due("what " + p + " asks", x.rents(p) >= 0 ? 1 : 0, 1);
        }
        x = longMarket(5, 4, new int[] {5, 9, 2, 0, 0, 1, 0, 6, 3, 6, 1, 4, 6, 0, 6, 1, 8, 8, 5, 2},
                new int[] {2, 0, 0, 1, 0, 1, 3, 5, 2, 2, 1, 5, 4, 3, 5, 2, 4, 3, 1, 1}, "31231012321011311130");
        Check.due("the 20th changed something", x.rents(Check.NONE), Check.NONE);
        for (int p = 0; p < 6; p++) {
            Check.due("none for " + p, x.rents(p), Check.NONE);
        }
    }

    @Says("RENTS: p = NONE the rounds, else what one asks; NONE. UNKNOWN.")
    static void p23Rents() {
        FirstFelt x = market(1, 1, 2, new int[] {100}, new int[] {1});
        Check.due("rounds", x.rents(Check.NONE), 1);
        Check.due("the first", x.rents(0), 0);
        Check.due("the last", x.rents(1), 2);
        Check.due("one too many", x.rents(2), Check.UNKNOWN);
        Check.due("below NONE", x.rents(-2), Check.UNKNOWN);
        Check.due("no people, no rounds", new FirstFelt().rents(Check.NONE), 0);
        Check.due("no people", new FirstFelt().rents(0), Check.UNKNOWN);
    }

    /** The sun shines in minutes 6 to 11 and from 54 to 59: he feels from 6 to 15, when heat is 159 and skin 137, and from 54 on. */
    private static final String SUNNY = "t2 1 0;w0 0 0;s0,30,0,0,0,0,0,0;p0 0 0 20 0;";

    @Says("CLAIMS (12 at most): a PERSON says he FELT on a CELL at minute m from now (0 the first to come, 0 .. 59).")
    static void claimsOfMinutes() {
        FirstFelt x = Check.townOf(SUNNY);
        Check.due("-1", x.claim(0, 0, -1), Check.OUTSIDE);
        Check.due("60", x.claim(0, 0, 60), Check.OUTSIDE);
        int[] minutes = {0, 5, 6, 15, 16, 53, 54, 59};
        for (int i = 0; i < minutes.length; i++) {
            Check.due("claim " + i, x.claim(0, 0, minutes[i]), i + 1);
        }
        Check.due("forged", x.forged(), 1 + 2 + 16 + 32);
        for (int i = 9; i <= 12; i++) {
            Check.due("claim " + i, x.claim(0, 0, 59), i);
        }
        Check.due("a 13th", x.claim(0, 0, 59), Check.FULL);
        Check.due("12", x.told(13), 12);
        Check.due("the last are so", x.forged(), 1 + 2 + 16 + 32);
        // From now: six minutes later minute 0 is another one.
        x.minute(6);
        Check.due("from now on 0, 5, 6 are so, 15 and 16 are not", x.forged() & 31, 8 + 16);
        x.tear();
        x.claim(0, 0, 9);
        x.claim(0, 0, 10);
        Check.due("claimed in minute 6, minutes 15 and 16", x.forged(), 2);
        // 0 is the first to come: 107 to 49 and 50, then 105 to 63 and 50.
        x = Check.townOf("t1 1 49;o0 0 60 1;p0 0 49 50 0;");
        x.light(0);
        x.claim(0, 0, 0);
        x.claim(0, 0, 1);
        Check.due("the first to come, not the second", x.forged(), 2);
    }

    @Says("FORGED: claims that are not so (a SET of claims).")
    static void forgedClaims() {
        FirstFelt x = Check.townOf("t2 1 49;p0 0 0 1 0;p1 0 300 1 0;");
        Check.due("none claimed", x.forged(), 0);
        x.claim(0, 0, 0);
        Check.due("so", x.forged(), 0);
        x.claim(0, 10, 0);
        Check.due("he felt elsewhere", x.forged(), 2);
        x.claim(1, 10, 0);
        Check.due("he is there, but does not feel", x.forged(), 2 + 4);
        x.claim(1, 0, 0);
        Check.due("another one felt there", x.forged(), 2 + 4 + 8);
        for (int i = 4; i < 12; i++) {
            x.claim(1, 0, i);
        }
        Check.due("up to the last bit", x.forged(), 0xffe);
    }

    @Says("A CLAIM (a CELL as a PAIR): how many. UNKNOWN, OUTSIDE, FULL (12).")
    static void p24Claim() {
        FirstFelt x = Check.townOf("t2 1 0;p0 0 0 1 0;");
        Check.due("nobody", x.claim(1, 0, 0), Check.UNKNOWN);
        Check.due("nobody below", x.claim(-1, 0, 0), Check.UNKNOWN);
        Check.due("no cell", x.claim(0, 20, 0), Check.UNKNOWN);
        Check.due("no cell to the south", x.claim(0, 1, 0), Check.UNKNOWN);
        Check.due("no cell below", x.claim(0, -1, 0), Check.UNKNOWN);
        Check.due("m -1", x.claim(0, 0, -1), Check.OUTSIDE);
        Check.due("m 60", x.claim(0, 0, 60), Check.OUTSIDE);
        for (int i = 1; i <= 12; i++) {
            Check.due("how many", x.claim(0, 10, 59), i);
        }
        Check.due("full", x.claim(0, 10, 59), Check.FULL);
        x.tear();
        Check.due("room again", x.claim(0, 10, 59), 1);
    }

    @Says("FORGED: the SET.")
    static void p25Forged() {
        FirstFelt x = new FirstFelt();
        Check.due("of nothing", x.forged(), 0);
        x = Check.townOf("t1 1 0;p0 0 0 1 0;");
        for (int i = 0; i < 12; i++) {
            x.claim(0, 0, 59);
        }
        Check.due("all twelve", x.forged(), 4095);
        x.tear();
        Check.due("none behind tear", x.forged(), 0);
        x.claim(0, 0, 59);
        Check.due("one anew", x.forged(), 1);
    }

    /**
     * Two cells with a wall, behind a minute in which the stove gave so much: the first one owns it, the second one's skin
     * is 21. If he must leave, the other cell, 6 by then, makes it 18.
     */
    private static FirstFelt leaving(int given, String more) {
        FirstFelt x = Check.townOf("t2 1 0;o0 0 " + given + " 1;p0 0 30 1 0;p0 0 12 60 0;" + more);
        x.light(0);
        x.minute(1);
        return x;
    }

    @Says("COLD by a LAW (0 .. 3, from now, L as it is):")
    static void coldByALaw() {
        FirstFelt x = leaving(51, "");
        Check.due("-1", x.cold(-1, 1), Check.OUTSIDE);
        Check.due("4", x.cold(4, 1), Check.OUTSIDE);
        for (int v = 0; v <= 3; v++) {
            Check.due("law " + v, x.cold(v, 1), 1);
        }
        // The owner has gone: by law 2 it is nobody's from the first minute on, ahead of which 40 is not yet dear.
        x = Check.townOf("t2 1 0;o0 0 40 9;p0 0 30 1 0;p1 0 5 60 0;");
        x.light(0);
        x.minute(1);
        x.go(0, 2);
        x.go(1, 4);
        int[] freeze = {1, 1, 0, 0};
        for (int v = 0; v <= 3; v++) {
            Check.due("the owner has gone, law " + v, x.cold(v, 2), freeze[v]);
        }
        x.law(2);
        for (int v = 0; v <= 3; v++) {
            Check.due("whatever the law is, law " + v, x.cold(v, 2), freeze[v]);
        }
        lastingMatters();
    }

    /**
     * The owner of the warm cell, 24 and 48, has gone and felt in minute 0; the other one comes in ahead of minute 2, with a
     * skin of 6. In minute 2 heat is 65, his skin 20; with L 1 it is nobody's then. Else he must leave it for 13, which makes
     * 19 of his skin. The owner freezes anyway.
     */
    private static void lastingMatters() {
        int[] lastings = {1, 2, 3, 20};
        int[] freeze = {1, 2, 2, 2};
        for (int i = 0; i < lastings.length; i++) {
            FirstFelt x = Check.townOf("t2 1 0;w0 0 0;o0 0 24 99;p0 0 20 1 0;p1 0 10 60 0;");
            comeIn(x);
            x.last(lastings[i]);
            Check.due("owner", x.cell(0, 0, 1), 0);
            Check.due("L " + lastings[i], x.cold(1, 2), freeze[i]);
        }
    }

    /** All stoves are lit; the first one owns the warm cell and leaves it behind a minute, the second one comes in behind another. */
    private static void comeIn(FirstFelt x) {
        for (int k = 0; k < x.told(3); k++) {
            x.light(k);
        }
        x.minute(1);
        x.build(0, 0, 0, false);
        x.go(0, 2);
        x.build(0, 0, 0, true);
        x.minute(1);
        x.build(0, 0, 0, false);
        x.go(1, 4);
    }

    @Says("PEOPLE who freeze within n minutes if each who is on a CELL of HEAT 50 or more that another one OWNS (not his PARTNER)"
            + " must leave it:")
    static void coldMustLeaveFromFifty() {
        Check.due("at 49 he stays", leaving(50, "").cold(0, 1), 0);
        Check.due("at 50 he must leave", leaving(51, "").cold(0, 1), 1);
        // The first as well as the last of six may have to.
        FirstFelt six = Check.townOf("t2 1 0;o0 0 51 1;p0 0 12 60 0;p0 0 30 1 0;p0 0 40 60 0;p0 0 40 60 0;p0 0 40 60 0;p0 0 12 60 0;");
        six.light(0);
        six.minute(1);
        Check.due("the first and the last of six", six.cold(0, 1), 2);
        // Who owns it stays; so does who is on nobody's.
        FirstFelt x = Check.townOf("t2 1 0;o0 0 51 1;p0 0 12 1 0;");
        x.light(0);
        x.minute(1);
        Check.due("his own", x.cold(0, 1), 0);
        x = Check.townOf("t2 1 0;o0 0 51 1;p0 0 12 60 0;");
        x.light(0);
        x.minute(1);
        Check.due("nobody's", x.cold(0, 1), 0);
        // A partner stays: the first one's skin is 11 and then 20, the second one's 12 and 21.
        for (int v = 0; v <= 3; v += 3) {
            x = Check.townOf("t2 1 0;o0 0 51 1;p0 0 11 1 0;p0 0 12 1 0;");
            x.law(v);
            x.light(0);
            x.minute(1);
            Check.due("partners by law " + v, x.person(0, 7), v == 3 ? 2 : 0);
            Check.due("who is a partner stays, law " + v, x.cold(0, 1), v == 3 ? 0 : 1);
        }
        // Within n minutes: 300, 225, 169, 127, 96, 72, 54, 41, 31, 24, 18.
        x = Check.townOf("t1 1 0;p0 0 300 1 0;p0 0 25 1 0;");
        Check.due("one within 1", x.cold(0, 1), 1);
        Check.due("one within 9", x.cold(0, 9), 1);
        Check.due("both within 10", x.cold(0, 10), 2);
        Check.due("both within 60", x.cold(0, 60), 2);
        x = Check.townOf("t1 1 20;p0 0 20 60 0;p0 0 19 60 0;");
        Check.due("20 is not frozen, 19 is", x.cold(0, 60), 1);
        // Who was frozen before and is warm by now does not freeze.
        x = Check.townOf("t1 1 79;p0 0 0 60 0;");
        x.minute(2);
        Check.due("he was", x.told(12), 1);
        Check.due("he does not", x.cold(0, 60), 0);
    }

    /** The middle has 50, three cells beside it 40, the one that is told 0; walls stand ahead of the ways that are told. */
    private static int coldTo(int cold, int walled) {
        String[] places = {"1 0", "2 1", "1 2", "0 1"};
        StringBuilder text = new StringBuilder("t3 3 0;o1 1 51 1;");
        for (int way = 1; way <= 4; way++) {
            if (way != cold) {
                text.append('o').append(places[way - 1]).append(" 40 1;");
            }
        }
        FirstFelt x = Check.townOf(text + "p1 1 30 1 0;p1 1 12 60 0;");
        for (int k = 0; k < 4; k++) {
            x.light(k);
        }
        x.minute(1);
        int[][] walls = {{1, 0, 1}, {1, 1, 0}, {1, 1, 1}, {0, 1, 0}};
        for (int way = 1; way <= walled; way++) {
            x.build(walls[way - 1][0], walls[way - 1][1], walls[way - 1][2], true);
        }
        return x.cold(0, 1);
    }

    @Says("he goes to the first CELL beside (north, east, south, west) that is not so, or stays: how many.")
    static void coldGoesToTheFirstBeside() {
        for (int cold = 1; cold <= 4; cold++) {
            for (int walled = 0; walled <= 4; walled++) {
                // He freezes only where it is cold: there he goes if all ways ahead of it are walled and it is not.
                Check.due("cold " + cold + ", walls up to " + walled, coldTo(cold, walled), walled == cold - 1 ? 1 : 0);
            }
        }
        // "That is not so": the north is another one's and has 50, too; so he goes east, where it is cold.
        FirstFelt x = Check.townOf("t3 3 0;o1 1 51 1;o1 0 51 1;p1 1 30 1 0;p1 1 12 60 0;p1 0 30 1 0;");
        x.light(0);
        x.light(1);
        x.minute(1);
        Check.due("past a dear one", x.cold(0, 1), 1);
        // The north has 49 only: there he may go.
        x = Check.townOf("t3 3 0;o1 1 51 1;o1 0 50 1;p1 1 30 1 0;p1 1 12 60 0;p1 0 30 1 0;");
        x.light(0);
        x.light(1);
        x.minute(1);
        Check.due("to one that is not dear", x.cold(0, 1), 0);
        // Off the town on all sides: he stays.
        x = Check.townOf("t1 1 0;o0 0 51 1;p0 0 30 1 0;p0 0 12 60 0;");
        x.light(0);
        x.minute(1);
        Check.due("or stays", x.cold(0, 1), 0);
        coldGoesToHisOwnAndHisPartners();
        // Not through the walls of the last cell of 20: he stays there at 50, or goes north, where it is cold.
        for (int walls = 0; walls <= 1; walls++) {
            x = Check.townOf("t5 4 0;w3 3 0;o4 3 51 1;p4 3 30 1 0;p4 3 12 60 0;");
            x.light(0);
            x.minute(1);
            x.build(4, 2, 1, walls == 1);
            Check.due("in the last cell, walls to the north " + walls, x.cold(0, 1), 1 - walls);
        }
    }

    /**
     * Both cells have 50. The first one's skin is 21; in the north, which has 38 then, it gets 25, elsewhere, at 6, it gets 18.
     * Who has a skin of 11 owns the north in his stead, and becomes his partner by law 3; his skin gets 20 and 24.
     */
    private static void coldGoesToHisOwnAndHisPartners() {
        String text = "t3 3 0;o1 1 51 1;o1 0 51 1;p1 0 12 1 0;p1 1 30 1 0;";
        String[] others = {"", "p1 0 11 1 0;", "p1 0 11 1 0;"};
        int[] laws = {0, 3, 0};
        int[] freeze = {0, 0, 1};
        for (int i = 0; i < laws.length; i++) {
            FirstFelt x = Check.townOf(text + others[i]);
            x.light(0);
            x.light(1);
            x.law(laws[i]);
            x.minute(1);
            Check.due("the north is", x.cell(1, 0, 1), i == 0 ? 0 : 2);
            Check.due("partners", x.person(0, 7), i == 1 ? 4 : 0);
            x.go(0, 3);
            Check.due("to his own, to his partner's, to neither " + i, x.cold(0, 1), freeze[i]);
        }
    }

    @Says("MILDEST: the LAW by which fewest do; of like ones the least.")
    static void mildestOfLikeOnesTheLeast() {
        FirstFelt x = Check.townOf("t2 1 0;o0 0 40 9;p0 0 30 1 0;p1 0 5 60 0;");
        x.light(0);
        x.minute(1);
        x.go(0, 2);
        x.go(1, 4);
        // Behind two minutes 1, 1, 0, 0 freeze, behind one nobody.
        Check.due("of 2 and 3 the least", x.mildest(2), 2);
        Check.due("of all the least", x.mildest(1), 0);
        x.go(0, 4);
        Check.due("only law 3", x.mildest(2), 3);
        // One freezes by each law.
        Check.due("of as many the least", leaving(51, "").mildest(1), 0);
        x.law(3);
        Check.due("whatever the law is", x.mildest(1), 0);
        mildestOfAllFour();
    }

    /**
     * The upper row is what lastingMatters tells. In the lower one all is the same, but that its owner stayed and felt in minute
     * 1, too, so that with L 1 he still owns it in minute 2; his skin is 27, 22, 20. Nobody new feels 65 with a skin of 6 and 60
     * to notice: by law 3 as many freeze as by law 0.
     */
    private static void mildestOfAllFour() {
        int[] lastings = {1, 2};
        int[][] freeze = {{3, 2, 1, 3}, {3, 3, 1, 3}};
        for (int i = 0; i < lastings.length; i++) {
            FirstFelt x = Check.townOf("t2 2 0;w0 0 0;w0 1 0;w0 0 1;w1 0 1;o0 0 24 99;o0 1 24 99;"
                    + "p0 0 20 1 0;p1 0 10 60 0;p0 1 20 1 0;p1 1 10 60 0;");
            comeIn(x);
            x.build(0, 1, 0, false);
            x.go(2, 2);
            x.go(3, 4);
            x.last(lastings[i]);
            for (int v = 0; v <= 3; v++) {
                Check.due("L " + lastings[i] + ", law " + v, x.cold(v, 2), freeze[i][v]);
            }
            Check.due("ever fewer, then more", x.mildest(2), 2);
        }
        // The upper row alone.
        int[][] alone = {{2, 1, 1, 2}, {2, 2, 1, 2}};
        for (int i = 0; i < lastings.length; i++) {
            FirstFelt x = Check.townOf("t2 1 0;w0 0 0;o0 0 24 99;p0 0 20 1 0;p1 0 10 60 0;");
            comeIn(x);
            x.last(lastings[i]);
            for (int v = 0; v <= 3; v++) {
                Check.due("alone, L " + lastings[i] + ", law " + v, x.cold(v, 2), alone[i][v]);
            }
            Check.due("of 1 and 2 the least, or only 2", x.mildest(2), i == 0 ? 1 : 2);
        }
    }

    @Says("COLD (n 1 .. 60): how many. OUTSIDE.")
    static void p26Cold() {
        FirstFelt x = Check.townOf("t1 1 0;p0 0 0 1 0;p0 0 300 1 0;");
        Check.due("0", x.cold(0, 0), Check.OUTSIDE);
        Check.due("1", x.cold(0, 1), 1);
        Check.due("60", x.cold(0, 60), 2);
        Check.due("61", x.cold(0, 61), Check.OUTSIDE);
        Check.due("law 3", x.cold(3, 1), 1);
        Check.due("law 4", x.cold(4, 1), Check.OUTSIDE);
        Check.due("law -1", x.cold(-1, 1), Check.OUTSIDE);
        Check.due("no people", new FirstFelt().cold(0, 60), 0);
    }

    @Says("MILDEST (n 1 .. 60): the LAW. OUTSIDE.")
    static void p27Mildest() {
        FirstFelt x = Check.townOf("t1 1 0;p0 0 0 1 0;");
        Check.due("0", x.mildest(0), Check.OUTSIDE);
        Check.due("1", x.mildest(1), 0);
        Check.due("60", x.mildest(60), 0);
        Check.due("61", x.mildest(61), Check.OUTSIDE);
        Check.due("no people", new FirstFelt().mildest(1), 0);
    }

    @Says("DEEDS (8 at most): at minute m from now (1 .. 60) a PERSON OWNS a CELL (behind m minutes).")
    static void deedsOfMinutes() {
        // He owns his cell from minute 6 on, which is behind 7 minutes; the stove is the other cell's, behind a wall.
        String text = SUNNY + "o1 0 1 9;";
        int[] minutes = {1, 6, 7, 60};
        int[] fitting = {0, 0, 60, 60};
        for (int i = 0; i < minutes.length; i++) {
            FirstFelt x = Check.townOf(text);
            Check.due("a deed", x.deed(0, 0, minutes[i]), 1);
            Check.due("behind " + minutes[i], x.wasLit(0, Check.NONE), fitting[i]);
        }
        FirstFelt x = Check.townOf(text);
        Check.due("0", x.deed(0, 0, 0), Check.OUTSIDE);
        Check.due("61", x.deed(0, 0, 61), Check.OUTSIDE);
        for (int i = 1; i <= 8; i++) {
            Check.due("deed " + i, x.deed(0, 0, 60), i);
        }
        Check.due("a ninth", x.deed(0, 0, 60), Check.FULL);
        Check.due("all eight are so", x.wasLit(0, Check.NONE), 60);
        Check.due("8", x.told(14), 8);
        // From now: a minute later behind 6 minutes is what was behind 7.
        x = Check.townOf(text);
        x.deed(0, 0, 6);
        x.minute(1);
        Check.due("from now on", x.wasLit(0, Check.NONE), 60);
        x.tear();
        x.deed(0, 0, 6);
        Check.due("written in minute 1", x.wasLit(0, Check.NONE), 60);
        x.deed(0, 0, 5);
        Check.due("written in minute 1, too early", x.wasLit(0, Check.NONE), 0);
        // Behind just m minutes: by law 1 with L 1 he owns it till minute 16, which is behind 17, and from minute 54 on.
        int[] ms = {17, 18, 54, 55};
        int[] fits = {60, 0, 0, 60};
        for (int i = 0; i < ms.length; i++) {
            x = Check.townOf(text);
            x.law(1);
            x.last(1);
            x.deed(0, 0, ms[i]);
            Check.due("by law 1 behind " + ms[i], x.wasLit(0, Check.NONE), fits[i]);
        }
    }

    @Says("WAS LIT: minutes k of 0 to 59 at which a STOVE that is out, lit then (0: now), makes all DEEDS so: how many; the i-th.")
    static void wasLitAtMinutes() {
        FirstFelt x = Check.townOf(RIVALS);
        Check.due("without deeds all of them", x.wasLit(0, Check.NONE), 60);
        Check.due("the first", x.wasLit(0, 0), 0);
        Check.due("the last", x.wasLit(0, 59), 59);
        Check.due("no more", x.wasLit(0, 60), Check.NONE);
        // The first one feels it first if it is lit in minute 3 or later, the second one if earlier.
        x.deed(0, 0, 60);
        Check.due("from 3 to 59", x.wasLit(0, Check.NONE), 57);
        Check.due("the first of these", x.wasLit(0, 0), 3);
        Check.due("the last of these", x.wasLit(0, 56), 59);
        x.deed(0, 0, 5);
        Check.due("3 and 4", x.wasLit(0, Check.NONE), 2);
        Check.due("4", x.wasLit(0, 1), 4);
        x.deed(0, 0, 4);
        Check.due("only 3", x.wasLit(0, Check.NONE), 1);
        x.deed(0, 0, 3);
        Check.due("none", x.wasLit(0, Check.NONE), 0);
        Check.due("no first", x.wasLit(0, 0), Check.NONE);
        // 0 is now: it burns in the first minute to come.
        x = Check.townOf(RIVALS);
        x.deed(1, 0, 1);
        Check.due("now only", x.wasLit(0, Check.NONE), 1);
        Check.due("that is 0", x.wasLit(0, 0), 0);
        // All deeds: one that cannot be so leaves nothing.
        x.deed(0, 0, 60);
        Check.due("not both", x.wasLit(0, Check.NONE), 0);
        // Without the stove the first one feels the sun in minute 18, 58 to 52 and 5, so that it may be lit late, till 59. But in
        // minute 18 both make 88, which the second one feels, too, with 46 and 35.
        x = Check.townOf(RIVALS + "s0,0,0,10;");
        Check.due("his without it", x.then(0, 0, 60, 1), 0);
        x.deed(0, 0, 60);
        Check.due("from 3 on, but for 18", x.wasLit(0, Check.NONE), 56);
        for (int i = 0; i < 56; i++) {
            Check.due("the one of " + i, x.wasLit(0, i), i < 15 ? i + 3 : i + 4);
        }
        Check.due("none behind 59", x.wasLit(0, 56), Check.NONE);
    }

    @Says("A DEED (a CELL as a PAIR): how many. UNKNOWN, OUTSIDE, FULL (8).")
    static void p28Deed() {
        FirstFelt x = Check.townOf("t2 1 0;p0 0 0 1 0;");
        Check.due("nobody", x.deed(1, 0, 1), Check.UNKNOWN);
        Check.due("nobody below", x.deed(-1, 0, 1), Check.UNKNOWN);
        Check.due("no cell", x.deed(0, 20, 1), Check.UNKNOWN);
        Check.due("no cell to the south", x.deed(0, 1, 1), Check.UNKNOWN);
        Check.due("no cell below", x.deed(0, -1, 1), Check.UNKNOWN);
        Check.due("m 0", x.deed(0, 0, 0), Check.OUTSIDE);
        Check.due("m 61", x.deed(0, 0, 61), Check.OUTSIDE);
        for (int i = 1; i <= 8; i++) {
            Check.due("how many", x.deed(0, 10, i % 2 == 0 ? 60 : 1), i);
        }
        Check.due("full", x.deed(0, 10, 1), Check.FULL);
        x.tear();
        Check.due("room again", x.deed(0, 10, 1), 1);
    }

    @Says("WAS LIT: i = NONE how many, else the i-th; NONE: not so many. UNKNOWN, NOT: it burns, has no WOOD.")
    static void p29WasLit() {
        FirstFelt x = Check.townOf("t2 1 49;o0 0 60 1;o1 0 60 0;p0 0 0 1 0;");
        Check.due("how many", x.wasLit(0, Check.NONE), 60);
        Check.due("the first", x.wasLit(0, 0), 0);
        Check.due("the last", x.wasLit(0, 59), 59);
        Check.due("not so many", x.wasLit(0, 60), Check.NONE);
        Check.due("far from so many", x.wasLit(0, Integer.MAX_VALUE), Check.NONE);
        Check.due("below NONE", x.wasLit(0, -2), Check.NONE);
        Check.due("far below NONE", x.wasLit(0, Integer.MIN_VALUE), Check.NONE);
        Check.due("it has no wood", x.wasLit(1, Check.NONE), Check.NOT);
        Check.due("it has no wood, the first", x.wasLit(1, 0), Check.NOT);
        Check.due("no stove", x.wasLit(2, Check.NONE), Check.UNKNOWN);
        Check.due("no stove below", x.wasLit(-1, Check.NONE), Check.UNKNOWN);
        x.light(0);
        Check.due("it burns", x.wasLit(0, Check.NONE), Check.NOT);
        x.minute(1);
        Check.due("it burnt down", x.wasLit(0, Check.NONE), Check.NOT);
        x.stoke(0, 1);
        Check.due("stoked", x.wasLit(0, Check.NONE), 60);
    }

    @Says("No CLAIMS, no DEEDS: how many both were.")
    static void p30Tear() {
        FirstFelt x = Check.townOf("t1 1 0;p0 0 0 1 0;");
        Check.due("none", x.tear(), 0);
        x.claim(0, 0, 0);
        Check.due("a claim", x.tear(), 1);
        x.deed(0, 0, 1);
        Check.due("a deed", x.tear(), 1);
        for (int i = 0; i < 13; i++) {
            x.claim(0, 0, 0);
            x.deed(0, 0, 1);
        }
        Check.due("as many as may be", x.tear(), 20);
        Check.due("no claims", x.told(13), 0);
        Check.due("no deeds", x.told(14), 0);
        Check.due("none any more", x.tear(), 0);
    }
}
