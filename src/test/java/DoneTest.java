/** Promises 10 to 17: go, build, light, stoke, law, last, minute, drift; numbers were reckoned by hand, those of draws by another program. */
public final class DoneTest {
    public static void main(String[] args) {
        go();
        build();
        light();
        stoke();
        lawAndLast();
        minuteRefusals();
        heatFlows();
        heatIsAtMost();
        sunAndRoofs();
        feltAndOwed();
        leastSkinOwns();
        lawForEver();
        lawWhileFelt();
        lawWhileThere();
        lawShared();
        drift();
        driftLights();
        Check.end("DoneTest");
    }

    private static void go() {
        FirstFelt x = Check.townOf("t2 2 0;w0 0 0;p0 0 0 1 0;");
        Check.due("10: north", x.go(0, 1), Check.NOT);
        Check.due("10: west", x.go(0, 4), Check.NOT);
        Check.due("10: wall", x.go(0, 2), Check.NOT);
        Check.due("10: stays", x.person(0, 0), 0);
        Check.due("10: south", x.go(0, 3), 1);
        Check.due("10: south again", x.go(0, 3), Check.NOT);
        Check.due("10: east", x.go(0, 2), 11);
        Check.due("10: east again", x.go(0, 2), Check.NOT);
        Check.due("10: north", x.go(0, 1), 10);
        Check.due("10: wall from the east", x.go(0, 4), Check.NOT);
        Check.due("10: where", x.person(0, 0), 10);
        x.build(0, 0, 0, false);
        Check.due("10: no wall", x.go(0, 4), 0);
        x.build(0, 0, 1, true);
        Check.due("10: wall to the south", x.go(0, 3), Check.NOT);
        Check.due("10: unknown", x.go(1, 9), Check.UNKNOWN);
        Check.due("10: unknown below", x.go(-1, 1), Check.UNKNOWN);
        Check.due("10: stay is no way", x.go(0, 0), Check.OUTSIDE);
        Check.due("10: way 5", x.go(0, 5), Check.OUTSIDE);
    }

    private static void build() {
        FirstFelt x = Check.townOf("t5 4 0;");
        Check.due("11: none was", x.build(0, 0, 0, true), 0);
        Check.due("11: one was", x.build(0, 0, 0, true), 1);
        Check.due("11: one", x.told(2), 1);
        Check.due("11: taken away", x.build(0, 0, 0, false), 1);
        Check.due("11: none to take", x.build(0, 0, 0, false), 0);
        Check.due("11: none", x.told(2), 0);
        Check.due("11: no cell there", x.build(4, 0, 0, true), Check.UNKNOWN);
        Check.due("11: no cell to the south", x.build(0, 3, 1, true), Check.UNKNOWN);
        Check.due("11: no cell", x.build(5, 0, 2, true), Check.UNKNOWN);
        Check.due("11: d", x.build(0, 0, 2, true), Check.OUTSIDE);
        Check.due("11: d below", x.build(0, 0, -1, true), Check.OUTSIDE);
        for (int y = 0; y < 4; y++) {
            for (int c = 0; c < 4; c++) {
                x.build(c, y, 0, true);
            }
        }
        Check.due("11: more than a text may tell", x.told(2), 16);
        Check.due("11: south of it is none", x.wall(0, 0, 1), 0);
    }

    private static void light() {
        FirstFelt x = Check.townOf("t2 1 0;o0 0 60 2;o1 0 60 0;");
        Check.due("12: wood", x.light(0), 2);
        Check.due("12: burns", x.light(0), Check.NOT);
        Check.due("12: no wood", x.light(1), Check.NOT);
        Check.due("12: unknown", x.light(2), Check.UNKNOWN);
        Check.due("12: unknown below", x.light(-1), Check.UNKNOWN);
        x.minute(2);
        Check.due("12: burnt down", x.light(0), Check.NOT);
    }

    private static void stoke() {
        FirstFelt x = Check.townOf("t2 1 0;o0 0 60 2;o1 0 60 0;");
        Check.due("13: more", x.stoke(0, 1), 3);
        Check.due("13: none", x.stoke(0, 0), Check.OUTSIDE);
        Check.due("13: too much", x.stoke(0, 100), Check.OUTSIDE);
        Check.due("13: unknown", x.stoke(2, 0), Check.UNKNOWN);
        for (int i = 1; i <= 10; i++) {
            Check.due("13: 99 more", x.stoke(0, 99), 3 + 99 * i);
        }
        Check.due("13: at most", x.stoke(0, 99), 999);
        Check.due("13: the other", x.stove(1, 2), 0);
        Check.due("13: stoking lights nothing", x.stove(0, 3), 0);
        x.stoke(1, 1);
        Check.due("13: can be lit", x.light(1), 1);
        Check.due("13: while it burns", x.stoke(1, 1), 2);
        x.minute(1);
        Check.due("13: burns on", x.stove(1, 3), 1);
    }

    private static void lawAndLast() {
        FirstFelt x = new FirstFelt();
        Check.due("14: was 0", x.law(3), 0);
        Check.due("14: was 3", x.law(0), 3);
        Check.due("14: above", x.law(4), Check.OUTSIDE);
        Check.due("14: below", x.law(-1), Check.OUTSIDE);
        Check.due("14: told", x.told(9), 0);
        Check.due("15: was 3", x.last(20), 3);
        Check.due("15: was 20", x.last(1), 20);
        Check.due("15: above", x.last(21), Check.OUTSIDE);
        Check.due("15: below", x.last(0), Check.OUTSIDE);
        Check.due("15: told", x.told(10), 1);
    }

    private static void minuteRefusals() {
        FirstFelt x = new FirstFelt();
        Check.due("16: outside first", x.minute(0), Check.OUTSIDE);
        Check.due("16: outside above", x.minute(61), Check.OUTSIDE);
        Check.due("16: no cells", x.minute(60), Check.NOT);
        Check.due("17: outside first", x.drift(0), Check.OUTSIDE);
        Check.due("17: outside above", x.drift(61), Check.OUTSIDE);
        Check.due("17: no cells", x.drift(60), Check.NOT);
        x = Check.townOf("t1 1 100;");
        Check.due("16: one", x.minute(1), 1);
        Check.due("16: sixty", x.minute(60), 61);
        Check.due("17: sixty", x.drift(60), 121);
        Check.due("16: refused", x.minute(-1), Check.OUTSIDE);
        Check.due("16: changes nothing", x.told(8), 121);
    }

    private static void heatFlows() {
        FirstFelt x = Check.townOf("t2 1 0;o0 0 60 99;");
        x.light(0);
        int[] first = {59, 110, 155};
        int[] second = {0, 7, 19};
        for (int i = 0; i < 3; i++) {
            x.minute(1);
            Check.due("16: by the stove", x.cell(0, 0, 0), first[i]);
            Check.due("16: beside it", x.cell(1, 0, 0), second[i]);
        }
        x.build(0, 0, 0, true);
        x.minute(1);
        Check.due("16: by the stove, a wall", x.cell(0, 0, 0), 211);
        Check.due("16: beside it, a wall", x.cell(1, 0, 0), 19);
        x = Check.townOf("t1 3 0;o0 1 60 9;");
        x.light(0);
        x.minute(2);
        Check.due("16: north", x.cell(0, 0, 0), 7);
        Check.due("16: middle", x.cell(0, 1, 0), 103);
        Check.due("16: south", x.cell(0, 2, 0), 7);
        x = Check.townOf("t1 1 50;");
        x.minute(1);
        Check.due("16: a 50th less", x.cell(0, 0, 0), 49);
        x.minute(60);
        Check.due("16: cut", x.cell(0, 0, 0), 49);
    }

    private static void heatIsAtMost() {
        FirstFelt x = Check.townOf("t1 1 200;o0 0 60 99;s30;p0 0 300 60 9;p0 0 300 60 9;p0 0 300 60 9;"
                + "p0 0 300 60 9;p0 0 300 60 9;p0 0 300 60 9;");
        x.light(0);
        x.minute(1);
        Check.due("16: stove, sun and six fevers", x.cell(0, 0, 0), 338);
        x.minute(5);
        Check.due("16: below the most", x.cell(0, 0, 0), 986);
        x.minute(1);
        Check.due("16: at most", x.cell(0, 0, 0), 999);
        x.minute(1);
        Check.due("16: still", x.cell(0, 0, 0), 999);
    }

    private static void sunAndRoofs() {
        FirstFelt x = Check.townOf("t2 1 0;w0 0 0;r1 0;s1,0,5;");
        x.minute(6);
        Check.due("16: an hour's sun", x.cell(0, 0, 0), 6);
        Check.due("16: a roof", x.cell(1, 0, 0), 0);
        x.minute(6);
        Check.due("16: no sun in the second", x.cell(0, 0, 0), 6);
        x.minute(6);
        Check.due("16: the third", x.cell(0, 0, 0), 36);
        x.minute(1);
        Check.due("16: the first again", x.cell(0, 0, 0), 37);
    }

    private static void feltAndOwed() {
        FirstFelt x = Check.townOf("t1 1 51;p0 0 40 10 0;p0 0 0 1 0;");
        x.minute(1);
        Check.due("16: least skin owns", x.cell(0, 0, 1), 1);
        Check.due("16: owes", x.person(0, 4), 1);
        Check.due("16: due", x.person(1, 5), 1);
        Check.due("16: the owner owes nothing", x.person(1, 4), 0);
        Check.due("16: skin", x.person(0, 1), 42);
        Check.due("16: skin of the other", x.person(1, 1), 12);
        Check.due("16: frozen", x.told(12), 2);
        x.minute(1);
        Check.due("16: below 50 nothing is owed", x.person(0, 4), 1);
        Check.due("16: warm again", x.person(1, 1), 21);
        Check.due("16: frozen all the same", x.told(12), 2);
        x = Check.townOf("t1 1 51;p0 0 40 10 0;");
        x.minute(1);
        Check.due("16: just felt", x.cell(0, 0, 1), 0);
        x = Check.townOf("t1 1 50;p0 0 40 10 0;");
        x.minute(1);
        Check.due("16: just not felt", x.cell(0, 0, 1), Check.NONE);
        x = Check.townOf("t1 1 49;p0 0 60 1 0;");
        x.minute(1);
        Check.due("16: skins cool, cut", x.person(0, 1), 58);
        x = Check.townOf("t1 1 20;p0 0 20 1 0;p0 0 19 60 0;");
        x.minute(1);
        Check.due("16: 20 is not frozen", x.told(12), 2);
    }

    private static void leastSkinOwns() {
        FirstFelt x = Check.townOf("t1 1 100;p0 0 30 1 0;p0 0 20 60 0;p0 0 20 1 0;p0 0 0 60 0;");
        x.go(3, 1);
        x.minute(1);
        Check.due("16: least skin", x.cell(0, 0, 1), 3);
        Check.due("16: due from three", x.person(3, 5), 3);
        x = Check.townOf("t1 1 100;p0 0 30 1 0;p0 0 20 60 0;p0 0 20 1 0;p0 0 39 60 0;");
        x.minute(1);
        Check.due("16: of like ones the least", x.cell(0, 0, 1), 1);
        x = Check.townOf("t1 1 61;p0 0 30 1 0;p0 0 0 60 0;");
        x.minute(1);
        Check.due("16: 60 is enough", x.cell(0, 0, 1), 1);
        x = Check.townOf("t1 1 60;p0 0 30 1 0;p0 0 0 60 0;");
        x.minute(1);
        Check.due("16: only who feels", x.cell(0, 0, 1), 0);
    }

    private static void lawForEver() {
        FirstFelt x = Check.townOf("t2 1 100;p0 0 0 1 0;");
        x.minute(1);
        x.go(0, 2);
        x.minute(60);
        Check.due("16: for ever", x.cell(0, 0, 1), 0);
        Check.due("16: and there", x.cell(1, 0, 1), 0);
        Check.due("16: both", x.person(0, 6), 2);
    }

    /** He feels in the first four minutes, as his skin is 0, 49, 85, 111, 130 and heat 196, 193, 190, 187, 184. */
    private static void lawWhileFelt() {
        for (int lasting = 1; lasting <= 20; lasting++) {
            FirstFelt x = Check.townOf("t1 1 200;p0 0 0 60 0;");
            x.last(lasting);
            x.law(1);
            x.minute(4 + lasting);
            Check.due("16: still his, L " + lasting, x.cell(0, 0, 1), 0);
            x.minute(1);
            Check.due("16: nobody's, L " + lasting, x.cell(0, 0, 1), Check.NONE);
        }
        FirstFelt x = Check.townOf("t1 1 200;p0 0 0 60 0;");
        x.minute(30);
        Check.due("16: his by law 0", x.cell(0, 0, 1), 0);
        x.law(1);
        x.minute(1);
        Check.due("16: felt too long ago", x.cell(0, 0, 1), Check.NONE);
    }

    private static void lawWhileThere() {
        FirstFelt x = Check.townOf("t2 1 100;p0 0 0 1 0;");
        x.law(2);
        x.minute(1);
        x.go(0, 2);
        Check.due("16: his ahead of the minute", x.cell(0, 0, 1), 0);
        x.minute(1);
        Check.due("16: nobody's behind it", x.cell(0, 0, 1), Check.NONE);
        Check.due("16: he is there", x.cell(1, 0, 1), 0);
        x.minute(60);
        Check.due("16: though he feels no more", x.cell(1, 0, 1), 0);
    }

    private static void lawShared() {
        FirstFelt x = Check.townOf("t1 1 100;p0 0 0 1 0;p0 0 50 30 0;p0 0 50 60 0;");
        x.law(3);
        x.minute(1);
        Check.due("16: owner", x.cell(0, 0, 1), 0);
        Check.due("16: partner of the owner", x.person(0, 7), 2);
        Check.due("16: and he his", x.person(1, 7), 1);
        Check.due("16: who feels nothing is none", x.person(2, 7), 0);
        Check.due("16: a partner owes nothing", x.person(1, 4), 0);
        Check.due("16: another one does", x.person(2, 4), 1);
        x.law(0);
        x.minute(1);
        Check.due("16: for good", x.person(1, 7), 1);
        Check.due("16: owes nothing by law 0", x.person(1, 4), 0);
        Check.due("16: due", x.person(0, 5), 2);
    }

    /** From seed 1 the draws are 16838, 5758, 10113, 17515, 31051, 5627, 23010, 7419, 16212, 4086. */
    private static void drift() {
        FirstFelt x = Check.townOf("t3 3 0;p1 1 0 1 0;");
        x.seed(1);
        int[] where = {12, 12, 11, 11, 21};
        for (int i = 0; i < where.length; i++) {
            Check.due("17: minutes", x.drift(1), i + 1);
            Check.due("17: where", x.person(0, 0), where[i]);
        }
        x = Check.townOf("t3 3 0;w1 1 1;p1 1 0 1 0;");
        x.seed(1);
        x.drift(1);
        Check.due("17: a wall", x.person(0, 0), 11);
        x = Check.townOf("t1 1 0;");
        x.seed(1);
        x.drift(1);
        Check.due("17: one draw", x.seed(0), 1103527590);
    }

    private static void driftLights() {
        FirstFelt x = Check.townOf("t2 1 0;o0 0 60 9;o1 0 60 9;");
        x.seed(59);
        x.drift(1);
        Check.due("17: not the first", x.stove(0, 3), 0);
        Check.due("17: the second", x.stove(1, 3), 1);
        Check.due("17: it burnt", x.stove(1, 2), 8);
        Check.due("17: heat", x.cell(1, 0, 0), 59);
        Check.due("17: two draws", x.seed(0), 794143921);
        x.drift(1);
        Check.due("17: the first", x.stove(0, 3), 1);
        x = Check.townOf("t2 1 0;o0 0 60 9;o1 0 60 0;");
        x.seed(59);
        x.drift(1);
        Check.due("17: no wood", x.stove(1, 3), 0);
        x = Check.townOf("t1 1 0;");
        x.drift(1);
        Check.due("17: no stove is drawn if there is none", x.seed(0), 12345);
    }
}
