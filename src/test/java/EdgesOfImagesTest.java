import java.util.List;

/** Boundaries of BY DRAWS and IMAGES, and those that promises 31 to 33 name. */
public final class EdgesOfImagesTest {
    public static void main(String[] args) {
        Edges.runAll(EdgesOfImagesTest.class);
    }

    private static long next(long seed) {
        return (seed * 1103515245L + 12345L) % 2147483648L;
    }

    @Says("BY DRAWS: THE SEED (0 at first: each DRAW it becomes it times 1103515245 and 12345, left over by 2 to the 31;")
    static void theSeedComesRound() {
        FirstFelt x = Check.townOf("t1 1 0;");
        // Without people and stoves a minute has one draw.
        int[] seeds = {12345, 1406932606, 654583775, 1449466924, 229283573, 1109335178};
        for (int seed : seeds) {
            x.drift(1);
            int is = x.seed(0);
            x.seed(is);
            Check.due("from 0 on", is, seed);
        }
        x.seed(Integer.MAX_VALUE);
        x.drift(1);
        // 12345 - 1103515245, left over by 2147483648.
        Check.due("from the most on", x.seed(0), 1043980748);
        Check.due("0 at first", new FirstFelt().seed(5), 0);
    }

    @Says("the DRAW of n is it / 65536, left over by n):")
    static void aDrawIsLeftOver() {
        // From these seeds the first draw is 0, 1, 2, 3, 4, left over by 5: he stays, goes north, east, south, west.
        int[] seeds = {0, 6, 3, 1, 7};
        int[] pairs = {11, 10, 21, 12, 1};
        for (int i = 0; i < seeds.length; i++) {
            FirstFelt x = Check.townOf("t3 3 0;p1 1 0 1 0;");
            x.seed(seeds[i]);
            x.drift(1);
            Check.due("from " + seeds[i], x.person(0, 0), pairs[i]);
        }
        // From 5 THE SEED becomes 1222621274, which is 18655 times 65536 and 65194 over: just not one more.
        FirstFelt x = Check.townOf("t3 3 0;p1 1 0 1 0;");
        x.seed(5);
        x.drift(1);
        Check.due("cut", x.person(0, 0), 11);
    }

    @Says("n minutes: each PERSON in order goes by a DRAW of 5 (0 stays; a WAY, if he may, else he stays);")
    static void peopleGoByDrawsInOrder() {
        // From 0 on the draws are 0, 21468, 9988, 22117, 3498, 16927: left over by 5 these are 0, 3, 3, 2, 3, 2.
        FirstFelt x = Check.townOf("t3 3 0;p1 1 0 1 0;p1 1 0 1 0;p1 1 0 1 0;p1 1 0 1 0;p1 1 0 1 0;p1 1 0 1 0;");
        x.drift(1);
        int[] pairs = {11, 12, 12, 21, 12, 21};
        for (int p = 0; p < pairs.length; p++) {
            Check.due("person " + p, x.person(p, 0), pairs[p]);
        }
        int[] seeds = {6, 3, 1, 7};
        int[][] walls = {{1, 0, 1}, {1, 1, 0}, {1, 1, 1}, {0, 1, 0}};
        for (int i = 0; i < seeds.length; i++) {
            x = Check.townOf("t3 3 0;p1 1 0 1 0;");
            x.build(walls[i][0], walls[i][1], walls[i][2], true);
            x.seed(seeds[i]);
            x.drift(1);
            Check.due("a wall, way " + (i + 1), x.person(0, 0), 11);
            x = Check.townOf("t1 1 0;p0 0 0 1 0;");
            x.seed(seeds[i]);
            x.drift(1);
            Check.due("off the town, way " + (i + 1), x.person(0, 0), 0);
            Check.due("no draw more for that", x.seed(0), next(next(seeds[i])));
        }
        // He goes ahead of the minute: it is the new cell that he warms and feels.
        x = Check.townOf("t2 1 0;p0 0 0 1 9;");
        x.seed(3);
        x.drift(1);
        Check.due("ahead of the minute", x.cell(1, 0, 0), 9);
        Check.due("it is his", x.cell(1, 0, 1), 0);
    }

    @Says("by a DRAW of 20 of 0 a DRAW of STOVES is lit, if there are any and it is out and has WOOD; then a MINUTE.")
    static void stovesAreLitByDraws() {
        // From 0 the first draw is 0: a draw of 20 of 0; from 11 it is 1, from 29 it is 19, from 5 it is 15.
        FirstFelt x = Check.townOf("t1 1 0;o0 0 60 9;");
        x.drift(1);
        Check.due("lit", x.stove(0, 3), 1);
        Check.due("ahead of the minute", x.stove(0, 2), 8);
        Check.due("it warms in it", x.cell(0, 0, 0), 59);
        Check.due("two draws", x.seed(0), 1406932606);
        for (int seed : new int[] {11, 29, 5}) {
            x = Check.townOf("t1 1 0;o0 0 60 9;");
            x.seed(seed);
            x.drift(1);
            Check.due("not lit from " + seed, x.stove(0, 3), 0);
            Check.due("one draw from " + seed, x.seed(0), next(seed));
        }
        // From 59 the draws are of 0 by 20, of 1 by 2.
        x = Check.townOf("t2 1 0;w0 0 0;o0 0 60 9;o1 0 50 9;");
        x.seed(59);
        x.drift(1);
        Check.due("the first is not drawn", x.stove(0, 3), 0);
        Check.due("the second is", x.stove(1, 3), 1);
        x = Check.townOf("t1 1 0;o0 0 60 0;");
        x.drift(1);
        Check.due("no wood", x.stove(0, 3), 0);
        Check.due("no wood less", x.stove(0, 2), 0);
        Check.due("no heat", x.cell(0, 0, 0), 0);
        Check.due("two draws all the same", x.seed(0), 1406932606);
        x = Check.townOf("t1 1 0;o0 0 60 9;");
        x.light(0);
        x.drift(1);
        Check.due("it burns on", x.stove(0, 2), 8);
        x = Check.townOf("t1 1 0;");
        x.drift(1);
        Check.due("without any only one draw", x.seed(0), 12345);
        // People draw first: from 0 the person's is 0, that of 20 is 21468, left over by 20 it is 8.
        x = Check.townOf("t1 1 0;o0 0 60 9;p0 0 0 1 0;");
        x.drift(1);
        Check.due("people draw first", x.stove(0, 3), 0);
    }

    /** The first one owns where the second one owes; the third one owns and froze. */
    private static FirstFelt busy() {
        FirstFelt x = Check.townOf("t2 1 60;o0 0 60 9;o1 0 9 9;p0 0 9 1 0;p0 0 200 60 0;p1 0 0 1 0;");
        x.light(0);
        x.minute(1);
        x.build(0, 0, 0, true);
        x.seed(77);
        x.law(1);
        x.last(2);
        return x;
    }

    private static void change(FirstFelt x) {
        x.build(0, 0, 0, false);
        x.go(2, 4);
        x.go(0, 2);
        x.light(1);
        x.law(3);
        x.last(20);
        x.drift(9);
        x.stoke(0, 50);
        x.law(0);
    }

    @Says("IMAGES 0, 1 keep HEATS, WALLS, STOVES, PEOPLE (where, SKINS, dues), who OWNS what (when it was FELT last, too), PARTNERS,"
            + " who is FROZEN, LAW, L, MINUTES, THE SEED.")
    static void imagesKeepAllThatIsSo() {
        for (int i = 0; i <= 1; i++) {
            FirstFelt x = busy();
            List<Integer> before = Edges.look(x);
            x.keep(i);
            change(x);
            List<Integer> between = Edges.look(x);
            Check.due("much is otherwise", before.equals(between) ? 1 : 0, 0);
            x.goBack(i);
            Edges.same("image " + i, before, Edges.look(x));
        }
        // When it was felt last: at minute 0 and at minute 2; by law 1 with L 1 only the later one lasts minute 3.
        FirstFelt x = Check.townOf("t2 1 49;p0 0 0 1 0;");
        x.minute(1);
        x.go(0, 2);
        x.keep(0);
        x.go(0, 4);
        x.minute(2);
        x.goBack(0);
        x.law(1);
        x.last(1);
        x.minute(1);
        Check.due("felt a minute ago", x.cell(0, 0, 1), 0);
        x.minute(1);
        Check.due("felt two minutes ago", x.cell(0, 0, 1), Check.NONE);
        // CLAIMS, DEEDS and the text are none of it.
        x.claim(0, 0, 0);
        x.deed(0, 0, 1);
        x.feed('t');
        x.goBack(0);
        Check.due("claims stay", x.told(13), 1);
        Check.due("deeds stay", x.told(14), 1);
        Check.due("the text stays", x.told(7), 1);
        imagesKeepFeltOfLaterMinutes();
        imagesKeepPartnersAndDues();
        imagesKeepTheLastOfAll();
        imagesKeepFeltOfTheLastCell();
    }

    private static void lastOfAll(String when, FirstFelt x, int[] cell, int[] stove, int[] person) {
        for (int what = 0; what < cell.length; what++) {
            Check.due(when + ", cell " + what, x.cell(4, 3, what), cell[what]);
        }
        for (int what = 0; what < stove.length; what++) {
            Check.due(when + ", stove " + what, x.stove(3, what), stove[what]);
        }
        for (int what = 0; what < person.length; what++) {
            Check.due(when + ", person " + what, x.person(5, what), person[what]);
        }
    }

    /**
     * The 20th cell, the fourth stove, the sixth person. In minute 0 its heat becomes 118, 59 elsewhere; the sixth owns it, the
     * fifth feels it, too, and becomes his partner by law 3, the fourth owes. Then the sixth goes west, where the third one owns,
     * and owes in minute 1, by law 0: heat there is 59 and 7 from the east, 65; his skin gets 29 and 38. The heat that he left
     * is 118 less 14 and with 60 more, 161.
     */
    private static void imagesKeepTheLastOfAll() {
        FirstFelt x = Check.townOf("t5 4 60;o0 0 1 1;o1 0 1 1;o2 0 1 1;o4 3 60 9;p0 0 60 60 0;p0 0 60 60 0;"
                + "p3 3 0 1 0;p4 3 200 60 0;p4 3 9 60 0;p4 3 0 1 0;");
        x.keep(0);
        x.light(3);
        x.law(3);
        x.minute(1);
        x.law(0);
        x.go(5, 4);
        x.minute(1);
        x.build(3, 3, 0, true);
        x.build(4, 2, 1, true);
        x.keep(1);
        int[] cell = {161, 5, 0, 24};
        int[] stove = {43, 60, 7, 1};
        int[] person = {33, 38, 1, 0, 1, 2, 1, 16};
        lastOfAll("behind two minutes", x, cell, stove, person);
        x.goBack(0);
        lastOfAll("at first", x, new int[] {60, Check.NONE, 0, 56}, new int[] {43, 60, 9, 0}, new int[] {43, 0, 1, 0, 0, 0, 0, 0});
        Check.due("no wall to the west", x.go(4, 4), 33);
        Check.due("back", x.go(4, 2), 43);
        Check.due("no wall to the north", x.go(4, 1), 42);
        x.goBack(1);
        lastOfAll("behind two minutes again", x, cell, stove, person);
        Check.due("a wall to the west", x.go(4, 4), Check.NOT);
        Check.due("a wall to the north", x.go(4, 1), Check.NOT);
    }

    private static void imagesKeepFeltOfTheLastCell() {
        FirstFelt x = Check.townOf("t5 4 49;p4 3 0 1 0;");
        x.minute(1);
        x.go(0, 4);
        x.keep(0);
        x.go(0, 2);
        x.minute(2);
        x.goBack(0);
        x.law(1);
        x.last(1);
        x.minute(1);
        Check.due("the last cell, felt a minute ago", x.cell(4, 3, 1), 0);
        x.minute(1);
        Check.due("the last cell, felt two minutes ago", x.cell(4, 3, 1), Check.NONE);
    }

    /** An image of a later minute, gone back to from an earlier one that has felt less. */
    private static void imagesKeepFeltOfLaterMinutes() {
        FirstFelt x = Check.townOf("t2 1 49;p0 0 0 1 0;");
        x.keep(0);
        x.minute(9);
        x.keep(1);
        x.goBack(0);
        x.goBack(1);
        x.go(0, 2);
        x.law(1);
        x.last(1);
        x.minute(1);
        Check.due("felt in minute 8", x.cell(0, 0, 1), 0);
    }

    private static void imagesKeepPartnersAndDues() {
        FirstFelt x = Check.townOf("t1 1 60;p0 0 0 1 0;p0 0 9 1 0;p0 0 200 60 0;");
        x.keep(0);
        x.law(3);
        x.minute(1);
        x.keep(1);
        x.goBack(0);
        int[] whats = {1, 4, 5, 6, 7};
        int[][] first = {{0, 0, 0, 0, 0}, {9, 0, 0, 0, 0}, {200, 0, 0, 0, 0}};
        // Heat is 59; who is no partner owes.
        int[][] second = {{14, 0, 1, 1, 2}, {21, 0, 0, 0, 1}, {165, 1, 0, 0, 0}};
        for (int p = 0; p < 3; p++) {
            for (int i = 0; i < whats.length; i++) {
                Check.due("at first, " + p + " " + whats[i], x.person(p, whats[i]), first[p][i]);
            }
        }
        Check.due("none was frozen", x.told(12), 0);
        x.goBack(1);
        for (int p = 0; p < 3; p++) {
            for (int i = 0; i < whats.length; i++) {
                Check.due("behind a minute, " + p + " " + whats[i], x.person(p, whats[i]), second[p][i]);
            }
        }
        Check.due("one was", x.told(12), 1);
    }

    @Says("THE SEED becomes v (0 .. 2147483647): what it was. OUTSIDE.")
    static void p31Seed() {
        FirstFelt x = new FirstFelt();
        Check.due("the most", x.seed(2147483647), 0);
        Check.due("the least", x.seed(0), 2147483647);
        Check.due("one", x.seed(1), 0);
        Check.due("below", x.seed(-1), Check.OUTSIDE);
        Check.due("far below", x.seed(Integer.MIN_VALUE), Check.OUTSIDE);
        Check.due("as it was", x.seed(0), 1);
    }

    @Says("IMAGE i becomes what is so: 1. UNKNOWN.")
    static void p32Keep() {
        FirstFelt x = Check.townOf("t1 1 0;");
        Check.due("-1", x.keep(-1), Check.UNKNOWN);
        Check.due("0", x.keep(0), 1);
        Check.due("2", x.keep(2), Check.UNKNOWN);
        Check.due("the other is not kept by it", x.goBack(1), Check.NOT);
        x.minute(1);
        Check.due("1", x.keep(1), 1);
        x.minute(1);
        Check.due("0 anew", x.keep(0), 1);
        x.minute(1);
        x.goBack(1);
        Check.due("of 1", x.told(8), 1);
        x.goBack(0);
        Check.due("the later one of 0", x.told(8), 2);
        Check.due("without cells", new FirstFelt().keep(1), 1);
    }

    @Says("What is so becomes IMAGE i: 1. UNKNOWN, NOT: it was not kept.")
    static void p33GoBack() {
        FirstFelt x = Check.townOf("t1 1 0;");
        Check.due("0 was not kept", x.goBack(0), Check.NOT);
        Check.due("1 was not kept", x.goBack(1), Check.NOT);
        Check.due("-1", x.goBack(-1), Check.UNKNOWN);
        Check.due("2", x.goBack(2), Check.UNKNOWN);
        x.keep(1);
        x.minute(5);
        Check.due("0 was not kept, 1 was", x.goBack(0), Check.NOT);
        Check.due("1 was", x.goBack(1), 1);
        Check.due("back", x.told(8), 0);
        x.minute(5);
        Check.due("as often as one likes", x.goBack(1), 1);
        Check.due("back again", x.told(8), 0);
        x.minute(7);
        Check.due("the image is as it was", x.goBack(1), 1);
        x.town();
        Check.due("gone with the town", x.goBack(1), Check.NOT);
    }
}
