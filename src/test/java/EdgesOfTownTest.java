import java.util.List;

/** Boundaries that promises 1 to 9 name. */
public final class EdgesOfTownTest {
    private static final String MANY = "t3 2 40;w0 0 0;w1 0 1;o0 0 50 12;o2 1 30 5;r1 1;s4,0;"
            + "p0 0 35 8 0;p0 1 30 20 3;p2 1 60 5 0;p2 1 10 9 1;";

    public static void main(String[] args) {
        Edges.runAll(EdgesOfTownTest.class);
    }

    @Says("`FirstFelt()`: No CELLS.")
    static void p01NewObjectHasNoCells() {
        FirstFelt x = new FirstFelt();
        for (int what = 0; what <= 14; what++) {
            Check.due("told " + what, x.told(what), what == 10 ? 3 : 0);
        }
        Check.due("fault", x.fault(), Check.NONE);
        Check.due("cell", x.cell(0, 0, 0), Check.UNKNOWN);
        Check.due("wall", x.wall(0, 0, 0), Check.UNKNOWN);
        Check.due("stove", x.stove(0, 0), Check.UNKNOWN);
        Check.due("person", x.person(0, 0), Check.UNKNOWN);
        Check.due("go", x.go(0, 1), Check.UNKNOWN);
        Check.due("build", x.build(0, 0, 0, true), Check.UNKNOWN);
        Check.due("light", x.light(0), Check.UNKNOWN);
        Check.due("stoke", x.stoke(0, 1), Check.UNKNOWN);
        Check.due("minute", x.minute(1), Check.NOT);
        Check.due("drift", x.drift(1), Check.NOT);
        Check.due("then", x.then(0, 0, 1, 0), Check.UNKNOWN);
        Check.due("stands", x.stands(0, 1, 0), Check.UNKNOWN);
        Check.due("lightFor", x.lightFor(0, 0, 1), Check.UNKNOWN);
        Check.due("keptOut", x.keptOut(0, 0, 1), Check.UNKNOWN);
        Check.due("gain", x.gain(0, 0, 0, 0, 1), Check.UNKNOWN);
        Check.due("rents", x.rents(Check.NONE), 0);
        Check.due("rents of one", x.rents(0), Check.UNKNOWN);
        Check.due("claim", x.claim(0, 0, 0), Check.UNKNOWN);
        Check.due("forged", x.forged(), 0);
        Check.due("cold", x.cold(3, 60), 0);
        Check.due("mildest", x.mildest(60), 0);
        Check.due("deed", x.deed(0, 0, 1), Check.UNKNOWN);
        Check.due("wasLit", x.wasLit(0, -1), Check.UNKNOWN);
        Check.due("tear", x.tear(), 0);
        Check.due("goBack", x.goBack(0), Check.NOT);
        Check.due("law", x.law(0), 0);
        Check.due("last", x.last(3), 3);
        Check.due("seed", x.seed(0), 0);
        Check.due("keep", x.keep(0), 1);
    }

    @Says("One letter (a number 0 .. 255) comes behind THE TEXT: how many it has. OUTSIDE, FULL (260).")
    static void p02FeedTakes260Letters() {
        FirstFelt x = new FirstFelt();
        Check.due("below", x.feed(-1), Check.OUTSIDE);
        Check.due("the least", x.feed(0), 1);
        Check.due("the most", x.feed(255), 2);
        Check.due("above", x.feed(256), Check.OUTSIDE);
        for (int i = 3; i <= 260; i++) {
            Check.due("letter " + i, x.feed(i % 256), i);
        }
        Check.due("the 261st", x.feed('t'), Check.FULL);
        Check.due("the 261st once more", x.feed('t'), Check.FULL);
        Check.due("the text as it was", x.told(7), 260);
    }

    @Says("THE TEXT (it is empty then, with a FAULT, too) becomes THE TOWN")
    static void p03TheTextIsEmptyThen() {
        FirstFelt x = new FirstFelt();
        Check.feedAll(x, "t2 1 0;");
        x.town();
        Check.due("empty", x.told(7), 0);
        Check.feedAll(x, "t2 1 0;x");
        x.town();
        Check.due("empty with a fault", x.told(7), 0);
        Check.due("the first letter anew", x.feed('t'), 1);
        Check.feedAll(x, "3 1 0;");
        Check.due("nothing is left of the fault", x.town(), 3);
    }

    @Says("(MINUTE 0, nobody OWNS, OWES, no PARTNERS, none FROZEN, stoves out; LAW 0, L 3; no CLAIMS, DEEDS; IMAGES are gone;"
            + " THE SEED stays): how many CELLS;")
    static void p03TheTownBeginsAnew() {
        // Heat is 59, then 117: the second one owns, the others owe, then feel and become his partners by law 3.
        String text = "t1 1 60;o0 0 60 9;p0 0 50 60 0;p0 0 0 1 0;p0 0 1 1 0;";
        FirstFelt x = Check.townOf(text);
        x.minute(1);
        x.light(0);
        x.law(3);
        x.last(7);
        x.minute(1);
        x.seed(99);
        x.claim(0, 0, 0);
        x.deed(0, 0, 1);
        x.keep(0);
        x.keep(1);
        toldOf(x, "before", new int[] {2, 3, 7, 6, 1, 1});
        Check.due("before, owner", x.cell(0, 0, 1), 1);
        Check.due("before, owes", x.person(0, 4), 1);
        Check.due("before, due", x.person(1, 5), 2);
        Check.due("before, partners", x.person(1, 7), 5);
        Check.due("before, burns", x.stove(0, 3), 1);
        Check.feedAll(x, text);
        Check.due("how many cells", x.town(), 1);
        toldOf(x, "anew", new int[] {0, 0, 3, 0, 0, 0});
        Check.due("heat", x.cell(0, 0, 0), 60);
        Check.due("nobody owns", x.cell(0, 0, 1), Check.NONE);
        Check.due("out", x.stove(0, 3), 0);
        Check.due("wood", x.stove(0, 2), 9);
        for (int p = 0; p < 3; p++) {
            for (int what = 4; what <= 7; what++) {
                Check.due("person " + p + " " + what, x.person(p, what), 0);
            }
        }
        Check.due("image 0 is gone", x.goBack(0), Check.NOT);
        Check.due("image 1 is gone", x.goBack(1), Check.NOT);
        Check.due("the seed stays", x.seed(0), 99);
        nothingIsLeftOfEarlierTowns();
    }

    /** Towns and texts with faults ahead of a town leave nothing in it, however many they were. */
    private static void nothingIsLeftOfEarlierTowns() {
        // By the stove the first one owns and freezes, the second one becomes his partner, the third one owes.
        String rich = "t2 1 0;w0 0 0;o0 0 60 5;r1 0;s4;p0 0 0 1 1;p0 0 10 1 0;p0 0 300 60 0;";
        String[] nexts = {"t2 1 0;o0 0 60 5;p0 0 0 1 1;p0 0 10 1 0;p0 0 300 60 0;", "t2 1 9;", ""};
        for (String next : nexts) {
            for (int earlier = 1; earlier <= 3; earlier++) {
                FirstFelt x = new FirstFelt();
                FirstFelt faulty = new FirstFelt();
                for (int i = 0; i < earlier; i++) {
                    tellRich(x, rich);
                    tellRich(faulty, rich);
                }
                tellNext(x, next, "behind " + earlier + " towns");
                // A text with a fault at its end was read whole, too.
                tellRich(faulty, rich + "x");
                tellNext(faulty, next, "behind " + earlier + " towns and a fault");
            }
        }
    }

    private static void tellRich(FirstFelt x, String text) {
        Check.feedAll(x, text);
        x.town();
        x.light(0);
        x.law(3);
        x.last(9);
        x.minute(1);
        x.law(0);
        x.minute(1);
        x.law(3);
    }

    private static void tellNext(FirstFelt x, String text, String when) {
        Check.feedAll(x, text);
        x.town();
        Edges.same(when, Edges.look(Check.townOf(text)), Edges.look(x));
    }

    /** MINUTES, LAW, L, FROZEN, CLAIMS, DEEDS. */
    private static void toldOf(FirstFelt x, String when, int[] want) {
        int[] whats = {8, 9, 10, 12, 13, 14};
        for (int i = 0; i < whats.length; i++) {
            Check.due(when + ", told " + whats[i], x.told(whats[i]), want[i]);
        }
    }

    @Says("-10 less the number of its FAULT (all else is as it was).")
    static void p03AFaultLeavesAllElse() {
        String[] faulty = {"t3 3 9;x", "t3 3 9;w9 0 0;", "t3 3 9;s1;s", "t3 3 9;r0 0;r0 0;", "t3 3 9;p0 0 9 9 9;p0 0", "x"};
        int[] answers = {-11, -12, -13, -14, -11, -11};
        for (int i = 0; i < faulty.length; i++) {
            FirstFelt x = Check.townOf("t2 1 90;w0 0 0;o0 0 60 5;r1 0;s4;p0 0 20 5 1;p0 0 100 9 0;");
            x.light(0);
            x.law(2);
            x.last(9);
            x.seed(41);
            x.minute(2);
            x.claim(1, 0, 0);
            x.deed(1, 0, 1);
            x.keep(0);
            x.minute(1);
            List<Integer> before = Edges.look(x);
            Check.feedAll(x, faulty[i]);
            Check.due("town \"" + faulty[i] + "\"", x.town(), answers[i]);
            int letter = x.fault();
            List<Integer> behind = Edges.look(x);
            // The fault itself is another one: told(0) to told(14) stand ahead of it.
            behind.set(15, before.get(15));
            Edges.same("as it was", before, behind);
            Check.due("the letter", letter, new int[] {7, 8, 10, 15, 22, 0}[i]);
            Check.due("the image as it was", x.goBack(0), 1);
            Check.due("kept at minute 2", x.told(8), 2);
            Check.due("the other image as it was", x.goBack(1), Check.NOT);
        }
    }

    @Says("The letter of the FAULT of the latest town(); NONE.")
    static void p04FaultOfTheLatestTown() {
        FirstFelt x = new FirstFelt();
        Check.due("no town yet", x.fault(), Check.NONE);
        Check.feedAll(x, "t1 1 1;  x");
        Check.due("not before town()", x.fault(), Check.NONE);
        x.town();
        Check.due("letter", x.fault(), 9);
        Check.due("once more", x.fault(), 9);
        Check.feedAll(x, "y");
        Check.due("till the next town()", x.fault(), 9);
        x.town();
        Check.due("letter 0", x.fault(), 0);
        Check.feedAll(x, "t1 1 1;");
        x.town();
        Check.due("none", x.fault(), Check.NONE);
        Check.feedAll(x, " ".repeat(259) + "t");
        x.town();
        Check.due("the end of a full text", x.fault(), 260);
        x.town();
        Check.due("none in an empty text", x.fault(), Check.NONE);
    }

    @Says("0 W, 1 H, 2 WALLS that there are, 3 STOVES, 4 ROOFS, 5 hours told, 6 PEOPLE, 7 letters of THE TEXT, 8 MINUTES, 9 LAW, 10 L,")
    static void p05ToldOfTheTown() {
        FirstFelt x = Check.townOf(MANY);
        int[] want = {3, 2, 2, 2, 1, 2, 4, 0, 0, 0, 3};
        for (int what = 0; what < want.length; what++) {
            Check.due("told " + what, x.told(what), want[what]);
        }
        x.build(0, 0, 0, false);
        Check.due("a wall less", x.told(2), 1);
        x.build(1, 1, 0, true);
        x.build(0, 0, 1, true);
        Check.due("two more", x.told(2), 3);
        x.feed('t');
        Check.due("a letter", x.told(7), 1);
        x.minute(2);
        Check.due("minutes", x.told(8), 2);
        x.law(3);
        Check.due("law", x.told(9), 3);
        x.last(20);
        Check.due("L", x.told(10), 20);
    }

    @Says("11 what THE SUN gives in the MINUTE to come,")
    static void p05TheSunOfTheMinuteToCome() {
        FirstFelt x = Check.townOf("t1 1 0;s4,0,9;");
        int[] minutes = {5, 6, 11, 12, 17, 18, 23, 24};
        int[] suns = {4, 0, 0, 9, 9, 4, 4, 0};
        Check.due("minute 0", x.told(11), 4);
        for (int i = 0; i < minutes.length; i++) {
            x.minute(minutes[i] - x.told(8));
            Check.due("minute " + minutes[i], x.told(11), suns[i]);
        }
        Check.due("untold", Check.townOf("t1 1 0;").told(11), 0);
        Check.due("of no cells", new FirstFelt().told(11), 0);
    }

    @Says("12 FROZEN, 13 CLAIMS, 14 DEEDS. OUTSIDE.")
    static void p05ToldOfPapersAndOutside() {
        FirstFelt x = Check.townOf(MANY);
        Check.due("none is frozen", x.told(12), 0);
        x.minute(1);
        // 10 and (45 - 10) / 4 is 18.
        Check.due("the last is", x.told(12), 8);
        for (int i = 1; i <= 12; i++) {
            x.claim(0, 0, 0);
            Check.due("claims", x.told(13), i);
        }
        x.claim(0, 0, 0);
        Check.due("12 at most", x.told(13), 12);
        for (int i = 1; i <= 8; i++) {
            x.deed(0, 0, 1);
            Check.due("deeds", x.told(14), i);
        }
        x.deed(0, 0, 1);
        Check.due("8 at most", x.told(14), 8);
        Check.due("15", x.told(15), Check.OUTSIDE);
        Check.due("-1", x.told(-1), Check.OUTSIDE);
    }

    @Says("what = 0 HEAT, 1 who OWNS it (NONE), 2 whether it has a ROOF (1, 0), 3 who is on it (a SET). UNKNOWN, OUTSIDE.")
    static void p06Cell() {
        FirstFelt x = Check.townOf(MANY);
        Check.due("nobody", x.cell(2, 1, 1), Check.NONE);
        Check.due("heat", x.cell(2, 1, 0), 40);
        Check.due("no roof", x.cell(2, 1, 2), 0);
        Check.due("a roof", x.cell(1, 1, 2), 1);
        Check.due("two on it", x.cell(2, 1, 3), 12);
        Check.due("nobody on it", x.cell(1, 1, 3), 0);
        x.minute(1);
        Check.due("owner", x.cell(2, 1, 1), 3);
        Check.due("the first owns, too", x.cell(0, 0, 1), 0);
        Check.due("X of W", x.cell(3, 1, 0), Check.UNKNOWN);
        Check.due("Y of H", x.cell(2, 2, 0), Check.UNKNOWN);
        Check.due("X below 0", x.cell(-1, 0, 0), Check.UNKNOWN);
        Check.due("Y below 0", x.cell(0, -1, 0), Check.UNKNOWN);
        Check.due("what 4", x.cell(2, 1, 4), Check.OUTSIDE);
        Check.due("what -1", x.cell(2, 1, -1), Check.OUTSIDE);
    }

    @Says("Whether there is a WALL to the east (d 0), south (d 1) of a CELL (1, 0). UNKNOWN (no CELL there, too), OUTSIDE (d).")
    static void p07Wall() {
        FirstFelt x = Check.townOf(MANY);
        Check.due("to the east", x.wall(0, 0, 0), 1);
        Check.due("none to the south", x.wall(0, 0, 1), 0);
        Check.due("none to the east", x.wall(1, 0, 0), 0);
        Check.due("to the south", x.wall(1, 0, 1), 1);
        Check.due("no cell to the east", x.wall(2, 0, 0), Check.UNKNOWN);
        Check.due("a cell to the south of it", x.wall(2, 0, 1), 0);
        Check.due("no cell to the south", x.wall(0, 1, 1), Check.UNKNOWN);
        Check.due("a cell to the east of it", x.wall(0, 1, 0), 0);
        Check.due("no cell", x.wall(3, 0, 1), Check.UNKNOWN);
        Check.due("no cell below", x.wall(0, -1, 1), Check.UNKNOWN);
        Check.due("d 2", x.wall(0, 0, 2), Check.OUTSIDE);
        Check.due("d -1", x.wall(0, 0, -1), Check.OUTSIDE);
        Check.due("d 2 of the last", x.wall(2, 1, 2), Check.OUTSIDE);
    }

    @Says("what = 0 its CELL (a PAIR), 1 S, 2 WOOD, 3 whether it burns (1, 0). UNKNOWN, OUTSIDE.")
    static void p08Stove() {
        FirstFelt x = Check.townOf(MANY);
        int[] want = {21, 30, 5, 0};
        for (int what = 0; what < want.length; what++) {
            Check.due("what " + what, x.stove(1, what), want[what]);
        }
        x.light(1);
        Check.due("burns", x.stove(1, 3), 1);
        Check.due("the other does not", x.stove(0, 3), 0);
        x.minute(5);
        Check.due("no wood", x.stove(1, 2), 0);
        Check.due("burns no more", x.stove(1, 3), 0);
        Check.due("one too many", x.stove(2, 0), Check.UNKNOWN);
        Check.due("below", x.stove(-1, 0), Check.UNKNOWN);
        Check.due("what 4", x.stove(1, 4), Check.OUTSIDE);
        Check.due("what -1", x.stove(1, -1), Check.OUTSIDE);
    }

    /** No 512 calls make so many minutes, so the numbers are put there. */
    @Says("4 what he OWES, 5 what is due to him (both 999999 at most),")
    static void p09OwedAndDueAtMost() {
        FirstFelt x = Check.townOf("t1 1 200;p0 0 0 1 0;p0 0 300 60 0;p0 0 300 60 0;");
        x.minute(1);
        Check.due("owes", x.person(1, 4), 1);
        Check.due("due from both", x.person(0, 5), 2);
        Edges.put(x, "owes", 1, 999998);
        Edges.put(x, "due", 0, 999996);
        x.minute(1);
        Check.due("as many as may be", x.person(1, 4), 999999);
        Check.due("two more are due", x.person(0, 5), 999998);
        x.minute(1);
        Check.due("no more", x.person(1, 4), 999999);
        Check.due("one more only", x.person(0, 5), 999999);
        Check.due("the other owes on", x.person(2, 4), 3);
        x.minute(1);
        Check.due("no more are due", x.person(0, 5), 999999);
    }

    @Says("6 how many CELLS he OWNS, 7 his PARTNERS (a SET). UNKNOWN, OUTSIDE.")
    static void p09Person() {
        FirstFelt x = Check.townOf(MANY);
        int[] want = {21, 10, 9, 1, 0, 0, 0, 0};
        for (int what = 0; what < want.length; what++) {
            Check.due("what " + what, x.person(3, what), want[what]);
        }
        x.minute(1);
        Check.due("he owns one", x.person(3, 6), 1);
        Check.due("he owns none", x.person(2, 6), 0);
        Check.due("one too many", x.person(4, 0), Check.UNKNOWN);
        Check.due("below", x.person(-1, 0), Check.UNKNOWN);
        Check.due("what 8", x.person(3, 8), Check.OUTSIDE);
        Check.due("what -1", x.person(3, -1), Check.OUTSIDE);
        x = Check.townOf("t1 1 200;p0 0 0 1 0;p0 0 9 1 0;p0 0 9 1 0;p0 0 9 1 0;p0 0 9 1 0;p0 0 9 1 0;");
        x.law(3);
        x.minute(1);
        Check.due("all others are partners", x.person(0, 7), 62);
        Check.due("he is theirs", x.person(5, 7), 1);
    }
}
