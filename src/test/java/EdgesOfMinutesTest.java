/** Boundaries that part 2, MINUTES, names; all numbers were reckoned by hand. */
public final class EdgesOfMinutesTest {
    public static void main(String[] args) {
        Edges.runAll(EdgesOfMinutesTest.class);
    }

    @Says("======== 2 MINUTES are counted from 0;")
    static void minutesAreCountedFromZero() {
        FirstFelt x = Check.townOf("t1 1 0;");
        Check.due("none yet", x.told(8), 0);
        x.minute(1);
        Check.due("one", x.told(8), 1);
    }

    @Says("the hour of minute t is t / 6, left over by how many hours are told.")
    static void hoursComeRound() {
        FirstFelt x = Check.townOf("t1 1 0;s1,0,5;");
        int[] minutes = {5, 6, 7, 11, 12, 13, 18, 19};
        int[] heats = {5, 6, 6, 6, 6, 11, 36, 37};
        for (int i = 0; i < minutes.length; i++) {
            x.minute(minutes[i] - x.told(8));
            Check.due("heat behind " + minutes[i], x.cell(0, 0, 0), heats[i]);
        }
        x = Check.townOf("t1 1 0;s0,0,0,0,0,0,0,1;");
        x.minute(42);
        Check.due("seven hours without", x.cell(0, 0, 0), 0);
        x.minute(6);
        Check.due("the eighth", x.cell(0, 0, 0), 6);
        x.minute(42);
        Check.due("the first again, and six more", x.cell(0, 0, 0), 6);
        x.minute(1);
        Check.due("the eighth again", x.cell(0, 0, 0), 7);
    }

    @Says("PEOPLE go between MINUTES, a CELL at a time.")
    static void peopleGoACellAtATime() {
        FirstFelt x = Check.townOf("t3 1 100;p0 0 0 1 0;");
        Check.due("a cell", x.go(0, 2), 10);
        Check.due("as often as they like", x.go(0, 2), 20);
        Check.due("no minute passes", x.told(8), 0);
        x.minute(1);
        Check.due("only the last is felt", x.cell(2, 0, 1), 0);
        Check.due("not the one between", x.cell(1, 0, 1), Check.NONE);
        Check.due("nor the first", x.cell(0, 0, 1), Check.NONE);
    }

    /** A cell that has so much and one beside it that has nothing, behind a minute in which heat flows. */
    private static void flows(int given, int left, int there) {
        FirstFelt x = Check.townOf("t2 1 0;o0 0 " + given + " 1;");
        x.light(0);
        x.minute(1);
        Check.due("given", x.cell(0, 0, 0), given);
        x.minute(1);
        Check.due("left of " + given, x.cell(0, 0, 0), left);
        Check.due("flowed of " + given, x.cell(1, 0, 0), there);
    }

    @Says("(a) each CELL's HEAT becomes HEAT, and for each CELL beside it (north, east, south, west) without a WALL between:"
            + " (HEAT there less HEAT here) / 8, all of HEATS as they were;")
    static void heatFlowsByEighths() {
        flows(7, 7, 0);
        flows(8, 7, 1);
        flows(15, 14, 1);
        flows(16, 14, 2);
        // To all four sides, not around corners; 49 / 8 is 6.
        FirstFelt x = Check.townOf("t3 3 0;o1 1 49 1;");
        x.light(0);
        x.minute(2);
        int[] heats = {0, 6, 0, 6, 25, 6, 0, 6, 0};
        for (int c = 0; c < 9; c++) {
            Check.due("cell " + c, x.cell(c % 3, c / 3, 0), heats[c]);
        }
        // A wall on each side in turn keeps 6 more in the middle and away from there.
        int[][] walls = {{1, 0, 1}, {1, 1, 0}, {1, 1, 1}, {0, 1, 0}};
        int[][] theres = {{1, 0}, {2, 1}, {1, 2}, {0, 1}};
        for (int i = 0; i < 4; i++) {
            x = Check.townOf("t3 3 0;o1 1 49 1;w" + walls[i][0] + " " + walls[i][1] + " " + walls[i][2] + ";");
            x.light(0);
            x.minute(2);
            Check.due("a wall keeps it in, " + i, x.cell(1, 1, 0), 31);
            Check.due("a wall keeps it out, " + i, x.cell(theres[i][0], theres[i][1], 0), 0);
        }
        // As they were: the third of a row gets nothing in the minute in which the second gets its first.
        x = Check.townOf("t3 1 0;o0 0 49 1;");
        x.light(0);
        x.minute(2);
        Check.due("beside", x.cell(1, 0, 0), 6);
        Check.due("not yet there", x.cell(2, 0, 0), 0);
        // Not one row's end beside the next one's start.
        x = Check.townOf("t2 2 0;w0 0 0;w1 0 1;o1 0 49 1;");
        x.light(0);
        x.minute(2);
        Check.due("walled in", x.cell(1, 0, 0), 49);
        Check.due("the next row's start", x.cell(0, 1, 0), 0);
    }

    @Says("then what STOVES that burn on it give, THE SUN, FEVERS of those who are on it;")
    static void stovesSunAndFeversGive() {
        FirstFelt x = Check.townOf("t2 1 0;w0 0 0;r1 0;o0 0 10 9;o1 0 10 9;s5;p0 0 0 60 2;p0 0 0 60 1;p1 0 0 60 9;");
        x.light(0);
        x.minute(1);
        Check.due("stove, sun, two fevers", x.cell(0, 0, 0), 18);
        Check.due("out, a roof, one fever", x.cell(1, 0, 0), 9);
        x = Check.townOf("t2 1 0;w0 0 0;o1 0 10 9;");
        x.light(0);
        x.minute(1);
        Check.due("a stove on another cell", x.cell(0, 0, 0), 0);
        Check.due("on its own", x.cell(1, 0, 0), 10);
        // 18 and 9 stand side by side, of which 1 flows; the fever gives to where he is by then.
        x = Check.townOf("t2 1 0;o0 0 18 1;p1 0 0 60 9;");
        x.light(0);
        x.minute(1);
        x.go(0, 4);
        x.minute(1);
        Check.due("the fever came along", x.cell(0, 0, 0), 26);
        Check.due("and left", x.cell(1, 0, 0), 10);
    }

    @Says("then a 50th less (HEAT / 50, cut);")
    static void aFiftiethLess() {
        int[] before = {49, 50, 99, 100, 149, 150, 200};
        int[] behind = {49, 49, 98, 98, 147, 147, 196};
        for (int i = 0; i < before.length; i++) {
            FirstFelt x = Check.townOf("t1 1 " + before[i] + ";");
            x.minute(1);
            Check.due("of " + before[i], x.cell(0, 0, 0), behind[i]);
        }
        // It is of what was given, too: 40 and 60 are 100.
        FirstFelt x = Check.townOf("t1 1 40;o0 0 60 1;");
        x.light(0);
        x.minute(1);
        Check.due("behind what is given", x.cell(0, 0, 0), 98);
    }

    @Says("cut); 999 at most.")
    static void heatIs999AtMost() {
        FirstFelt x = Check.townOf("t1 1 200;o0 0 60 99;s30;p0 0 0 60 9;p0 0 0 60 9;p0 0 0 60 9;p0 0 0 60 9;p0 0 0 60 9;p0 0 0 60 9;");
        x.light(0);
        // 144 come each minute.
        int[] heats = {338, 473, 605, 735, 862, 986, 999, 999, 999};
        for (int i = 0; i < heats.length; i++) {
            x.minute(1);
            Check.due("minute " + i, x.cell(0, 0, 0), heats[i]);
        }
        // The most is behind the 50th: 1019 - 20 is 999, 1018 - 20 is 998.
        x = Check.townOf("t1 1 0;o0 0 20 9;");
        Edges.put(x, "heat", 0, 999);
        x.light(0);
        x.minute(1);
        Check.due("just 999", x.cell(0, 0, 0), 999);
        x = Check.townOf("t1 1 0;o0 0 19 9;");
        Edges.put(x, "heat", 0, 999);
        x.light(0);
        x.minute(1);
        Check.due("just below", x.cell(0, 0, 0), 998);
    }

    @Says("A burning STOVE has one minute's WOOD less; without any it is out.")
    static void burningTakesWood() {
        FirstFelt x = Check.townOf("t1 1 0;o0 0 10 2;");
        x.minute(3);
        Check.due("out, no wood is burnt", x.stove(0, 2), 2);
        x.light(0);
        x.minute(1);
        Check.due("one less", x.stove(0, 2), 1);
        Check.due("burns", x.stove(0, 3), 1);
        x.minute(1);
        Check.due("none", x.stove(0, 2), 0);
        Check.due("out", x.stove(0, 3), 0);
        Check.due("the last wood gave heat", x.cell(0, 0, 0), 20);
        x.minute(1);
        Check.due("never below 0", x.stove(0, 2), 0);
        Check.due("no heat", x.cell(0, 0, 0), 20);
        x.stoke(0, 1);
        x.minute(1);
        Check.due("stoked, but out", x.stove(0, 2), 1);
    }

    @Says("(b) each PERSON FEELS, if HEAT of his CELL is SKIN and T or more.")
    static void feelsSkinAndTOrMore() {
        int[] heats = {50, 51, 52};
        int[] owners = {Check.NONE, 0, 0};
        for (int i = 0; i < heats.length; i++) {
            FirstFelt x = Check.townOf("t1 1 " + heats[i] + ";p0 0 40 10 0;");
            x.minute(1);
            Check.due((heats[i] - 1) + " to 40 and 10", x.cell(0, 0, 1), owners[i]);
        }
        FirstFelt x = Check.townOf("t1 1 0;p0 0 0 1 1;");
        x.minute(1);
        Check.due("the least that may be felt, his own", x.cell(0, 0, 1), 0);
        x = Check.townOf("t1 1 0;p0 0 0 1 0;");
        x.minute(60);
        Check.due("0 is not felt by 0", x.cell(0, 0, 1), Check.NONE);
        // It is the HEAT of this minute, by the SKIN that he has ahead of it: 4 lie between them, the next minute 3.
        x = Check.townOf("t1 1 44;p0 0 40 4 0;");
        x.minute(1);
        Check.due("by the skin ahead", x.cell(0, 0, 1), 0);
        x = Check.townOf("t1 1 40;o0 0 4 1;p0 0 40 4 0;");
        x.light(0);
        x.minute(1);
        Check.due("by the heat behind", x.cell(0, 0, 1), 0);
    }

    @Says("(c) each CELL of nobody: of those who FEEL on it the one with the least SKIN (of like ones the least) OWNS it.")
    static void theLeastSkinOwns() {
        FirstFelt x = Check.townOf("t1 1 100;p0 0 30 1 0;p0 0 29 1 0;p0 0 31 1 0;");
        x.minute(1);
        Check.due("the least skin", x.cell(0, 0, 1), 1);
        x = Check.townOf("t1 1 100;p0 0 31 1 0;p0 0 30 1 0;p0 0 30 60 0;");
        x.minute(1);
        Check.due("of like ones the least", x.cell(0, 0, 1), 1);
        x = Check.townOf("t1 1 60;p0 0 30 1 0;p0 0 0 60 0;");
        x.minute(1);
        Check.due("only of those who feel", x.cell(0, 0, 1), 0);
        x = Check.townOf("t2 1 100;p0 0 30 1 0;p1 0 0 1 0;");
        x.minute(1);
        Check.due("only of those on it", x.cell(0, 0, 1), 0);
        x.go(1, 4);
        x.minute(1);
        Check.due("only of nobody's", x.cell(0, 0, 1), 0);
        Check.due("it stays another's", x.cell(1, 0, 1), 1);
        x = Check.townOf("t1 1 0;p0 0 200 1 0;");
        x.minute(1);
        Check.due("nobody feels", x.cell(0, 0, 1), Check.NONE);
    }

    @Says("(e) each who is on a CELL that another one OWNS (and is not his PARTNER) and whose HEAT is 50 or more OWES one more,"
            + " the OWNER has one more due.")
    static void owedFromFifty() {
        int[] starts = {50, 51};
        for (int i = 0; i < starts.length; i++) {
            FirstFelt x = Check.townOf("t1 1 " + starts[i] + ";p0 0 0 1 0;p0 0 300 1 0;");
            x.minute(1);
            Check.due("owed at " + x.cell(0, 0, 0), x.person(1, 4), i);
            Check.due("due at " + x.cell(0, 0, 0), x.person(0, 5), i);
            Check.due("the owner owes nothing", x.person(0, 4), 0);
            Check.due("nothing is due to the other", x.person(1, 5), 0);
        }
        FirstFelt x = Check.townOf("t1 1 200;p0 0 300 1 0;p0 0 300 1 0;");
        x.minute(1);
        Check.due("nobody's, nothing is owed", x.person(0, 4) + x.person(1, 4), 0);
        x = Check.townOf("t1 1 200;p0 0 0 1 0;p0 0 9 1 0;p0 0 300 1 0;");
        x.law(3);
        x.minute(1);
        Check.due("a partner of this minute owes nothing", x.person(1, 4), 0);
        Check.due("who is no partner does", x.person(2, 4), 1);
        Check.due("one is due", x.person(0, 5), 1);
    }

    @Says("(f) each SKIN becomes SKIN and (HEAT of his CELL less SKIN) / 4.")
    static void skinsFollowByQuarters() {
        int[] skins = {0, 45, 46, 47, 48, 49, 50, 51, 52, 53, 54, 300};
        int[] behind = {12, 46, 46, 47, 48, 49, 50, 51, 52, 52, 53, 238};
        for (int i = 0; i < skins.length; i++) {
            FirstFelt x = Check.townOf("t1 1 49;p0 0 " + skins[i] + " 60 0;");
            x.minute(1);
            Check.due("a skin of " + skins[i] + " at 49", x.person(0, 1), behind[i]);
        }
        // It is the heat behind (a): 40 and 8.
        FirstFelt x = Check.townOf("t1 1 40;o0 0 8 1;p0 0 40 60 0;");
        x.light(0);
        x.minute(1);
        Check.due("by the heat of this minute", x.person(0, 1), 42);
    }

    @Says("(g) MINUTES are one more.")
    static void aMinuteMore() {
        FirstFelt x = Check.townOf("t1 1 0;s1,0;");
        for (int i = 1; i <= 7; i++) {
            Check.due("minute", x.minute(1), i);
        }
        // The sun of minute 5 was the last of its hour: MINUTES grow at the end.
        Check.due("six of sun", x.cell(0, 0, 0), 6);
    }

    @Says("LAW 0 (at first): who OWNS a CELL does so for ever.")
    static void lawZeroIsForEver() {
        FirstFelt x = Check.townOf("t2 1 100;p0 0 0 1 0;p1 0 300 1 0;");
        Check.due("at first", x.told(9), 0);
        x.minute(1);
        x.go(0, 2);
        x.go(1, 4);
        for (int i = 0; i < 5; i++) {
            x.minute(60);
        }
        Check.due("neither felt nor there", x.cell(0, 0, 1), 0);
    }

    /** His skin is 0, 49, 85, 111, 130, heat 196, 193, 190, 187, 184: he feels in minutes 0 to 3. */
    @Says("LAW 1: till he has not FELT on it for L minutes (L 3 at first, 1 .. 20):")
    static void lawOneLastsL() {
        FirstFelt x = Check.townOf("t1 1 200;p0 0 0 60 0;");
        Check.due("3 at first", x.told(10), 3);
        x.law(1);
        x.minute(7);
        Check.due("felt 3 minutes ago", x.cell(0, 0, 1), 0);
        x.minute(1);
        Check.due("felt 4 minutes ago", x.cell(0, 0, 1), Check.NONE);
        for (int lasting = 1; lasting <= 20; lasting++) {
            x = Check.townOf("t1 1 200;p0 0 0 60 0;");
            Check.due("L", x.last(lasting), 3);
            x.law(1);
            x.minute(4 + lasting);
            Check.due("still his by L " + lasting, x.cell(0, 0, 1), 0);
            x.minute(1);
            Check.due("nobody's by L " + lasting, x.cell(0, 0, 1), Check.NONE);
        }
        Check.due("0", x.last(0), Check.OUTSIDE);
        Check.due("21", x.last(21), Check.OUTSIDE);
    }

    @Says("he FEELS on it, or did in one of the L minutes ahead of this one, else it is nobody's from then on.")
    static void lawOneCountsMinutesAhead() {
        // His skin never comes to 49: he feels in each minute.
        FirstFelt x = Check.townOf("t2 1 49;p0 0 0 1 0;");
        x.law(1);
        x.last(1);
        x.minute(1);
        Check.due("he feels", x.cell(0, 0, 1), 0);
        x.go(0, 2);
        x.minute(1);
        Check.due("he did in the one ahead", x.cell(0, 0, 1), 0);
        Check.due("and feels on the other", x.cell(1, 0, 1), 0);
        x.minute(1);
        Check.due("nobody's", x.cell(0, 0, 1), Check.NONE);
        Check.due("felt elsewhere does not count", x.cell(1, 0, 1), 0);
        x.go(0, 4);
        x.minute(1);
        Check.due("owned anew, as it is felt anew", x.cell(0, 0, 1), 0);
        // What was felt by other laws counts.
        x = Check.townOf("t3 1 49;p0 0 0 1 0;");
        x.minute(1);
        x.go(0, 2);
        x.minute(1);
        x.go(0, 2);
        x.law(1);
        x.last(1);
        x.minute(1);
        Check.due("felt in minute 0 by law 0", x.cell(0, 0, 1), Check.NONE);
        Check.due("felt in minute 1 by law 0", x.cell(1, 0, 1), 0);
        // Another one's feeling does not make it last: in minute 3 it is nobody's, in minute 4 the other one's.
        x = Check.townOf("t2 1 49;p0 0 0 1 0;p0 0 20 1 0;");
        x.law(1);
        x.last(2);
        x.minute(1);
        x.go(0, 2);
        x.minute(2);
        Check.due("two minutes ago", x.cell(0, 0, 1), 0);
        x.minute(1);
        Check.due("nobody's in this minute", x.cell(0, 0, 1), Check.NONE);
        x.minute(1);
        Check.due("the other one's from the next on", x.cell(0, 0, 1), 1);
    }

    @Says("LAW 2: till he is on another CELL.")
    static void lawTwoEndsElsewhere() {
        FirstFelt x = Check.townOf("t2 1 100;p0 0 0 1 0;");
        x.law(2);
        x.minute(1);
        x.go(0, 2);
        Check.due("his till a minute passes", x.cell(0, 0, 1), 0);
        x.go(0, 4);
        x.minute(1);
        Check.due("there and back", x.cell(0, 0, 1), 0);
        x.minute(60);
        Check.due("he need not feel", x.cell(0, 0, 1), 0);
        x.go(0, 2);
        x.minute(1);
        Check.due("nobody's", x.cell(0, 0, 1), Check.NONE);
    }

    @Says("LAW 3: as LAW 0, but each who FEELS on a CELL that another one OWNS becomes that one's PARTNER for good, and that one his.")
    static void lawThreeMakesPartners() {
        FirstFelt x = Check.townOf("t2 1 100;p0 0 0 1 0;p0 0 50 48 0;p0 0 50 49 0;p1 0 50 1 0;");
        x.law(3);
        x.minute(1);
        // Heat is 98: 50 and 48 is felt, 50 and 49 is not.
        Check.due("of the owner", x.person(0, 7), 2);
        Check.due("who feels", x.person(1, 7), 1);
        Check.due("who does not", x.person(2, 7), 0);
        Check.due("an owner elsewhere", x.person(3, 7), 0);
        Check.due("as law 0", x.cell(0, 0, 1), 0);
        for (int v = 2; v >= 0; v--) {
            x.law(v);
            x.minute(1);
            Check.due("for good, law " + v, x.person(0, 7), 2);
        }
        x.go(0, 2);
        x.minute(60);
        Check.due("for good", x.person(0, 7), 2);
        Check.due("for good, he his", x.person(1, 7), 1);
        Check.due("for ever", x.cell(0, 0, 1), 0);
        // More than one: he feels on a cell of the first one's, then on one of the second one's.
        x = Check.townOf("t2 1 200;p0 0 0 1 0;p1 0 0 1 0;p0 0 9 1 0;");
        x.law(3);
        x.minute(1);
        x.go(2, 2);
        x.minute(1);
        Check.due("both are his", x.person(2, 7), 3);
        Check.due("he is the first one's", x.person(0, 7), 4);
        Check.due("he is the second one's", x.person(1, 7), 4);
        x.go(1, 4);
        x.minute(1);
        Check.due("an owner on another one's, two partners", x.person(1, 7), 5);
        Check.due("the first one's two partners", x.person(0, 7), 6);
        // By the other laws nobody becomes a partner.
        for (int v = 0; v <= 2; v++) {
            x = Check.townOf("t1 1 100;p0 0 0 1 0;p0 0 9 1 0;");
            x.law(v);
            x.minute(1);
            Check.due("no partner by law " + v, x.person(0, 7), 0);
        }
    }

    @Says("FROZEN: who had a SKIN below 20 behind some MINUTE (a SET).")
    static void frozenBelowTwenty() {
        FirstFelt x = Check.townOf("t1 1 20;p0 0 20 60 0;p0 0 19 60 0;p0 0 21 60 0;p0 0 0 60 0;");
        Check.due("not ahead of a minute", x.told(12), 0);
        x.minute(1);
        Check.due("19 and 0 are, 20 is not", x.told(12), 2 + 8);
        x = Check.townOf("t1 1 80;p0 0 0 60 0;p0 0 1 60 0;");
        x.minute(1);
        // 79 / 4 is 19, 1 and 78 / 4 is 20: warmed up within the minute.
        Check.due("by the skin behind", x.told(12), 1);
        x.minute(1);
        Check.due("for good", x.told(12), 1);
    }
}
