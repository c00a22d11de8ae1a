/** Boundaries that promises 10 to 17 name. */
public final class EdgesOfDoneTest {
    public static void main(String[] args) {
        Edges.runAll(EdgesOfDoneTest.class);
    }

    @Says("A PERSON goes a WAY (1 north, 2 east, 3 south, 4 west): where he is then (a PAIR). UNKNOWN, OUTSIDE, NOT: off the town, a WALL.")
    static void p10Go() {
        FirstFelt x = Check.townOf("t3 3 0;p1 1 0 1 0;");
        int[] ways = {1, 3, 2, 4, 3, 1, 4, 2};
        int[] pairs = {10, 11, 21, 11, 12, 11, 1, 11};
        for (int i = 0; i < ways.length; i++) {
            Check.due("step " + i, x.go(0, ways[i]), pairs[i]);
        }
        Check.due("way 0", x.go(0, 0), Check.OUTSIDE);
        Check.due("way 5", x.go(0, 5), Check.OUTSIDE);
        Check.due("nobody", x.go(1, 1), Check.UNKNOWN);
        Check.due("nobody below", x.go(-1, 1), Check.UNKNOWN);
        // A wall on each side in turn: to the north and west it is the other cell's.
        int[][] walls = {{1, 0, 1}, {1, 1, 0}, {1, 1, 1}, {0, 1, 0}};
        for (int way = 1; way <= 4; way++) {
            int[] w = walls[way - 1];
            x.build(w[0], w[1], w[2], true);
            Check.due("a wall, way " + way, x.go(0, way), Check.NOT);
            Check.due("he stays, way " + way, x.person(0, 0), 11);
            x.build(w[0], w[1], w[2], false);
        }
        // Off the town on each side, from a corner; no row's end is beside the next one's start.
        x = Check.townOf("t2 2 0;p0 0 0 1 0;p1 0 0 1 0;p0 1 0 1 0;p1 1 0 1 0;");
        int[][] off = {{0, 1}, {0, 4}, {1, 1}, {1, 2}, {2, 3}, {2, 4}, {3, 2}, {3, 3}};
        for (int[] o : off) {
            Check.due("off the town, " + o[0] + " " + o[1], x.go(o[0], o[1]), Check.NOT);
        }
        for (int p = 0; p < 4; p++) {
            Check.due("they stay", x.person(p, 0), p % 2 * 10 + p / 2);
        }
    }

    @Says("A WALL is built (or, if is is false, taken away): 1 there was one, 0 there was none. UNKNOWN (no CELL there, too), OUTSIDE (d).")
    static void p11Build() {
        FirstFelt x = Check.townOf("t3 2 0;");
        for (int d = 0; d <= 1; d++) {
            Check.due("none was", x.build(1, 0, d, true), 0);
            Check.due("one was", x.build(1, 0, d, true), 1);
            Check.due("it is there", x.wall(1, 0, d), 1);
            Check.due("one was, taken away", x.build(1, 0, d, false), 1);
            Check.due("none was, taken away", x.build(1, 0, d, false), 0);
            Check.due("it is not there", x.wall(1, 0, d), 0);
        }
        Check.due("no cell to the east", x.build(2, 0, 0, true), Check.UNKNOWN);
        Check.due("no cell to the south", x.build(1, 1, 1, true), Check.UNKNOWN);
        Check.due("the last one's east", x.build(2, 1, 0, false), Check.UNKNOWN);
        Check.due("the last one's south", x.build(2, 1, 1, false), Check.UNKNOWN);
        Check.due("no cell", x.build(3, 0, 0, true), Check.UNKNOWN);
        Check.due("no cell below", x.build(-1, 0, 0, true), Check.UNKNOWN);
        Check.due("d 2", x.build(1, 0, 2, true), Check.OUTSIDE);
        Check.due("d -1", x.build(1, 0, -1, true), Check.OUTSIDE);
        Check.due("none of these was built", x.told(2), 0);
        // 12 are the most that a text tells; a built one more is not refused.
        x = Check.townOf("t5 4 0;w0 0 0;w1 0 0;w2 0 0;w3 0 0;w0 1 0;w1 1 0;w2 1 0;w3 1 0;w0 2 0;w1 2 0;w2 2 0;w3 2 0;");
        Check.due("a 13th", x.build(0, 3, 0, true), 0);
        Check.due("13", x.told(2), 13);
    }

    @Says("A STOVE is lit: its WOOD. UNKNOWN, NOT: it burns, has no WOOD.")
    static void p12Light() {
        FirstFelt x = Check.townOf("t2 1 0;o0 0 60 1;o1 0 60 0;");
        Check.due("its wood", x.light(0), 1);
        Check.due("it burns", x.light(0), Check.NOT);
        Check.due("it has no wood", x.light(1), Check.NOT);
        Check.due("nothing burns for that", x.stove(1, 3), 0);
        x.minute(1);
        Check.due("it burnt down", x.light(0), Check.NOT);
        x.stoke(0, 1);
        Check.due("stoked", x.light(0), 1);
        Check.due("no such stove", x.light(2), Check.UNKNOWN);
        Check.due("none below", x.light(-1), Check.UNKNOWN);
    }

    @Says("F minutes' WOOD more (1 .. 99; 999 at most) for a STOVE: its WOOD. UNKNOWN, OUTSIDE.")
    static void p13Stoke() {
        FirstFelt x = Check.townOf("t1 1 0;o0 0 60 0;");
        Check.due("0", x.stoke(0, 0), Check.OUTSIDE);
        Check.due("1", x.stoke(0, 1), 1);
        Check.due("99", x.stoke(0, 99), 100);
        Check.due("100", x.stoke(0, 100), Check.OUTSIDE);
        for (int i = 2; i <= 9; i++) {
            Check.due("99 more", x.stoke(0, 99), 1 + 99 * i);
        }
        Check.due("892 and 99", x.stoke(0, 99), 991);
        Check.due("998", x.stoke(0, 7), 998);
        Check.due("999", x.stoke(0, 1), 999);
        Check.due("no more", x.stoke(0, 1), 999);
        Check.due("no more by 99", x.stoke(0, 99), 999);
        Check.due("none more is there", x.stove(0, 2), 999);
        Check.due("not lit by it", x.stove(0, 3), 0);
        Check.due("no such stove", x.stoke(1, 1), Check.UNKNOWN);
        Check.due("none below", x.stoke(-1, 1), Check.UNKNOWN);
    }

    @Says("LAW becomes v (0 .. 3): what it was. OUTSIDE.")
    static void p14Law() {
        FirstFelt x = new FirstFelt();
        Check.due("-1", x.law(-1), Check.OUTSIDE);
        Check.due("4", x.law(4), Check.OUTSIDE);
        Check.due("as it was", x.told(9), 0);
        int[] laws = {3, 0, 1, 2, 2};
        int was = 0;
        for (int v : laws) {
            Check.due("to " + v, x.law(v), was);
            Check.due("is " + v, x.told(9), v);
            was = v;
        }
    }

    @Says("L becomes v (1 .. 20): what it was. OUTSIDE.")
    static void p15Last() {
        FirstFelt x = new FirstFelt();
        Check.due("0", x.last(0), Check.OUTSIDE);
        Check.due("21", x.last(21), Check.OUTSIDE);
        Check.due("as it was", x.told(10), 3);
        Check.due("1", x.last(1), 3);
        Check.due("20", x.last(20), 1);
        Check.due("is 20", x.told(10), 20);
        Check.due("20 again", x.last(20), 20);
    }

    /** So late no 512 calls come, so MINUTES are put there. */
    private static FirstFelt at(int minutes) {
        FirstFelt x = Check.townOf("t1 1 100;s1,2,3;");
        Edges.put(x, "minutes", Check.NONE, minutes);
        return x;
    }

    @Says("n MINUTES (1 .. 60): MINUTES. OUTSIDE, NOT: no CELLS, FULL: MINUTES are above 900000.")
    static void p16Minute() {
        FirstFelt x = Check.townOf("t1 1 0;");
        Check.due("0", x.minute(0), Check.OUTSIDE);
        Check.due("61", x.minute(61), Check.OUTSIDE);
        Check.due("1", x.minute(1), 1);
        Check.due("60", x.minute(60), 61);
        Check.due("no cells", new FirstFelt().minute(1), Check.NOT);
        x.town();
        Check.due("no cells any more", x.minute(1), Check.NOT);
        Check.due("at 900000", at(900000).minute(60), 900060);
        Check.due("at 900000, one", at(900000).minute(1), 900001);
        x = at(900001);
        Check.due("above", x.minute(1), Check.FULL);
        Check.due("as they were", x.told(8), 900001);
        Check.due("heat as it was", x.cell(0, 0, 0), 100);
    }

    @Says("n MINUTES BY DRAWS (1 .. 60): MINUTES. OUTSIDE, NOT: no CELLS, FULL: MINUTES are above 900000.")
    static void p17Drift() {
        FirstFelt x = Check.townOf("t1 1 0;");
        Check.due("0", x.drift(0), Check.OUTSIDE);
        Check.due("61", x.drift(61), Check.OUTSIDE);
        Check.due("1", x.drift(1), 1);
        Check.due("60", x.drift(60), 61);
        Check.due("no cells", new FirstFelt().drift(1), Check.NOT);
        x.town();
        Check.due("no cells any more", x.drift(1), Check.NOT);
        Check.due("at 900000", at(900000).drift(60), 900060);
        Check.due("at 900000, one", at(900000).drift(1), 900001);
        x = at(900001);
        Check.due("above", x.drift(1), Check.FULL);
        Check.due("as they were", x.told(8), 900001);
        Check.due("the seed as it was", x.seed(0), 0);
    }
}
