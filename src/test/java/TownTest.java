/** Promises 1 to 9: a new object, feed, town, fault, told, cell, wall, stove, person. */
public final class TownTest {
    private static final String MANY = "t3 2 40;w0 0 0;w1 0 1;o0 0 50 12;o2 1 30 5;r1 1;s4,0;"
            + "p0 0 35 8 0;p0 1 30 20 3;p2 1 60 5 0;p2 1 10 9 1;";

    public static void main(String[] args) {
        newObject();
        feed();
        town();
        townBeginsAnew();
        faults();
        faultsOfMany();
        faultsOfBlanksAndEnds();
        faultsAtTheLastLetter();
        told();
        cell();
        wall();
        stove();
        person();
        Check.end("TownTest");
    }

    private static void newObject() {
        FirstFelt x = new FirstFelt();
        for (int what = 0; what <= 14; what++) {
            Check.due("1: told " + what, x.told(what), what == 10 ? 3 : 0);
        }
        Check.due("1: fault", x.fault(), Check.NONE);
        Check.due("1: cell", x.cell(0, 0, 0), Check.UNKNOWN);
        Check.due("1: stove", x.stove(0, 0), Check.UNKNOWN);
        Check.due("1: person", x.person(0, 0), Check.UNKNOWN);
        Check.due("1: minute", x.minute(1), Check.NOT);
        Check.due("1: drift", x.drift(1), Check.NOT);
        Check.due("1: goBack", x.goBack(0), Check.NOT);
        Check.due("1: seed", x.seed(5), 0);
        Check.due("1: tear", x.tear(), 0);
    }

    private static void feed() {
        FirstFelt x = new FirstFelt();
        Check.due("2: below", x.feed(-1), Check.OUTSIDE);
        Check.due("2: above", x.feed(256), Check.OUTSIDE);
        Check.due("2: far below", x.feed(Integer.MIN_VALUE), Check.OUTSIDE);
        Check.due("2: least", x.feed(0), 1);
        Check.due("2: most", x.feed(255), 2);
        for (int i = 3; i <= 260; i++) {
            Check.due("2: letter " + i, x.feed(' '), i);
        }
        Check.due("2: full", x.feed(' '), Check.FULL);
        Check.due("2: outside ahead of full", x.feed(256), Check.OUTSIDE);
        Check.due("2: letters", x.told(7), 260);
        x.town();
        Check.due("2: empty then", x.feed('t'), 1);
    }

    private static void town() {
        FirstFelt x = new FirstFelt();
        Check.due("3: empty", x.town(), 0);
        Check.feedAll(x, "t5 4 200;");
        Check.due("3: 20 cells", x.town(), 20);
        Check.due("3: text is empty", x.told(7), 0);
        Check.feedAll(x, "t6 3 7");
        Check.due("3: fault", x.town(), -11);
        Check.due("3: text is empty, too", x.told(7), 0);
        Check.due("3: as it was", x.told(0), 5);
        Check.due("3: heat as it was", x.cell(4, 3, 0), 200);
        Check.due("3: an empty text", x.town(), 0);
        Check.due("3: no cells then", x.told(0), 0);
        Check.due("3: no cell then", x.cell(0, 0, 0), Check.UNKNOWN);
        Check.feedAll(x, "  t 6 003 7 ; ");
        Check.due("3: blanks", x.town(), 18);
        Check.due("3: three figures", x.told(1), 3);
    }

    private static void townBeginsAnew() {
        FirstFelt x = Check.townOf("t1 1 100;o0 0 60 9;p0 0 0 1 0;p0 0 5 1 0;");
        x.light(0);
        x.law(3);
        x.last(7);
        x.seed(99);
        x.claim(0, 0, 0);
        x.deed(0, 0, 1);
        x.minute(2);
        x.keep(0);
        Check.feedAll(x, "t1 1 100;t");
        Check.due("3: fault keeps", x.town(), -13);
        Check.due("3: claims as they were", x.told(13), 1);
        Check.due("3: minutes as they were", x.told(8), 2);
        Check.due("3: image as it was", x.goBack(0), 1);
        Check.feedAll(x, "t1 1 100;o0 0 60 9;p0 0 0 1 0;p0 0 5 1 0;");
        Check.due("3: anew", x.town(), 1);
        Check.due("3: minutes", x.told(8), 0);
        Check.due("3: law", x.told(9), 0);
        Check.due("3: L", x.told(10), 3);
        Check.due("3: frozen", x.told(12), 0);
        Check.due("3: claims", x.told(13), 0);
        Check.due("3: deeds", x.told(14), 0);
        Check.due("3: nobody owns", x.cell(0, 0, 1), Check.NONE);
        Check.due("3: heat", x.cell(0, 0, 0), 100);
        Check.due("3: out", x.stove(0, 3), 0);
        Check.due("3: wood", x.stove(0, 2), 9);
        Check.due("3: partners", x.person(0, 7), 0);
        Check.due("3: skin", x.person(0, 1), 0);
        Check.due("3: images are gone", x.goBack(0), Check.NOT);
        Check.due("3: the seed stays", x.seed(0), 99);
    }

    private static void faults() {
        Check.fault("w0 0 0;", 1, 0);
        Check.fault("x", 1, 0);
        Check.fault("T1 1 1;", 1, 0);
        Check.fault("t0 1 1;", 2, 1);
        Check.fault("t7 1 1;", 2, 1);
        Check.fault("t1 0 1;", 2, 3);
        Check.fault("t1 7 1;", 2, 3);
        Check.fault("t4 6 1;", 2, 3);
        Check.fault("t1 1 201;", 2, 5);
        Check.fault("t1 1 0001;", 2, 5);
        Check.fault("t0001 1 1;", 2, 1);
        Check.fault("t1 1 99999999999999999999;", 2, 5);
        Check.fault("t1 1 4294967297;", 2, 5);
        Check.fault("t2 2 1;w2 0 0;", 2, 8);
        Check.fault("t2 2 1;w0 2 0;", 2, 10);
        Check.fault("t2 2 1;w0 0 2;", 2, 12);
        Check.fault("t2 2 1;w1 0 0;", 2, 12);
        Check.fault("t2 2 1;w0 1 1;", 2, 12);
        Check.fault("t2 2 1;w0 0 1;w0 0 1;", 4, 19);
        Check.fault("t2 2 1;o0 0 0 1;", 2, 12);
        Check.fault("t2 2 1;o0 0 61 1;", 2, 12);
        Check.fault("t2 2 1;o0 0 60 100;", 2, 15);
        Check.fault("t2 2 1;o2 0 60 1;", 2, 8);
        Check.fault("t2 2 1;o0 0 9 1;o0 0 99 1;", 4, 19);
        Check.fault("t2 2 1;o0 0 9 1;o1 0 9 1;o1 0 9 1;", 4, 28);
        Check.fault("t2 2 1;r0 0;r0 0;", 4, 15);
        Check.fault("t2 2 1;r0 2;", 2, 10);
        Check.fault("t2 2 1;s31;", 2, 8);
        Check.fault("t2 2 1;s1,31;", 2, 10);
        Check.fault("t2 2 1;s1;s1;", 3, 10);
        Check.fault("t2 2 1;s1,2,3,4,5,6,7,8,9;", 1, 23);
        Check.fault("t2 2 1;s,1;", 1, 8);
        Check.fault("t2 2 1;s1 2;", 1, 10);
        Check.fault("t2 2 1;p0 0 301 1 0;", 2, 12);
        Check.fault("t2 2 1;p0 0 300 0 0;", 2, 16);
        Check.fault("t2 2 1;p0 0 300 61 0;", 2, 16);
        Check.fault("t2 2 1;p0 0 300 60 10;", 2, 19);
        Check.fault("t2 2 1;p2 0 300 60 9;", 2, 8);
        Check.fault("t1 1 1;t", 3, 7);
        Check.fault("t1 1 1;t1 1 1;", 3, 7);
        Check.good("t2 2 0;w0 0 0;w0 0 1;w1 0 1;w0 1 0;o1 1 60 99;o0 0 1 0;r1 1;s0,30,1,2,3,4,5,6;p1 1 300 60 9;p0 0 0 1 0;", 4);
        Check.good("t6 3 200;", 18);
        Check.good("t1 6 200;", 6);
    }

    private static void faultsOfMany() {
        StringBuilder people = new StringBuilder("t5 4 0;");
        StringBuilder walls = new StringBuilder("t5 4 0;");
        StringBuilder roofs = new StringBuilder("t5 4 0;");
        for (int i = 0; i < 12; i++) {
            walls.append('w').append(i % 4).append(' ').append(i / 4).append(" 0;");
            roofs.append('r').append(i % 4).append(' ').append(i / 4).append(';');
        }
        for (int i = 0; i < 6; i++) {
            people.append("p0 0 0 1 0;");
        }
        String stoves = "t5 4 0;o0 0 1 1;o1 0 1 1;o2 0 1 1;o3 0 1 1;";
        Check.good(people.toString(), 20);
        Check.fault(people + "p", 3, people.length());
        Check.good(walls.toString(), 20);
        Check.fault(walls + "w0 3 0;", 3, walls.length());
        Check.good(roofs.toString(), 20);
        Check.fault(roofs + "r0 3;", 3, roofs.length());
        Check.good(stoves, 20);
        Check.fault(stoves + " o4 0 1 1;", 3, stoves.length() + 1);
    }

    private static void faultsOfBlanksAndEnds() {
        Check.fault("t", 1, 1);
        Check.fault("t ", 1, 2);
        Check.fault("t1", 1, 2);
        Check.fault("t1 1 1", 1, 6);
        Check.fault("t1 1 1  ", 1, 8);
        Check.fault("t1 1;", 1, 4);
        Check.fault("t1 1 1 1;", 1, 7);
        Check.fault("t1 1 1 1111;", 1, 7);
        Check.fault("t1,1 1;", 1, 2);
        Check.fault("t1 1 1;;", 1, 7);
        Check.fault("t1 1 1;s1", 1, 9);
        Check.fault("t1 1 1;s1,", 1, 10);
        Check.fault("t1 1 1;\n", 1, 7);
        Check.fault("t12 1 1;", 2, 1);
        Check.fault("  w", 1, 2);
        Check.good("", 0);
        Check.good("   ", 0);
        Check.good(" t 1 1 1 ; s 1 , 2 ; ", 1);
        Check.good("t1 1 1;p0 0 0 1 0;", 1);
    }

    /** Texts of 260 letters, which end within each clause. */
    private static void faultsAtTheLastLetter() {
        String[] ends = {"t", "t2", "t2 2", "t2 2 1", "t2 2 1;w", "t2 2 1;w0 0 0", "t2 2 1;o0", "t2 2 1;o0 0 1 1", "t2 2 1;r0 0",
            "t2 2 1;s", "t2 2 1;s1", "t2 2 1;s1,", "t2 2 1;s1,2,3,4,5,6,7,8", "t2 2 1;p", "t2 2 1;p0 0 1 1 1"};
        for (String end : ends) {
            Check.fault(" ".repeat(260 - end.length()) + end, 1, 260);
        }
        Check.good(" ".repeat(260), 0);
        Check.good(" ".repeat(253) + "t2 2 1;", 4);
    }

    private static void told() {
        FirstFelt x = Check.townOf(MANY);
        int[] want = {3, 2, 2, 2, 1, 2, 4, 0, 0, 0, 3, 4, 0, 0, 0};
        for (int what = 0; what < want.length; what++) {
            Check.due("5: told " + what, x.told(what), want[what]);
        }
        Check.due("5: below", x.told(-1), Check.OUTSIDE);
        Check.due("5: above", x.told(15), Check.OUTSIDE);
        x.feed('t');
        Check.due("5: letters", x.told(7), 1);
        x.build(0, 0, 0, false);
        Check.due("5: a wall less", x.told(2), 1);
        x.minute(5);
        Check.due("5: sun in the sixth minute", x.told(11), 4);
        x.minute(1);
        Check.due("5: sun in the second hour", x.told(11), 0);
        x.minute(6);
        Check.due("5: sun comes round", x.told(11), 4);
        Check.due("5: minutes", x.told(8), 12);
        Check.due("5: frozen", x.told(12), 8);
        x.claim(0, 0, 0);
        x.claim(0, 0, 0);
        x.deed(0, 0, 1);
        Check.due("5: claims", x.told(13), 2);
        Check.due("5: deeds", x.told(14), 1);
    }

    private static void cell() {
        FirstFelt x = Check.townOf(MANY);
        Check.due("6: heat", x.cell(2, 1, 0), 40);
        Check.due("6: nobody", x.cell(2, 1, 1), Check.NONE);
        Check.due("6: roof", x.cell(1, 1, 2), 1);
        Check.due("6: no roof", x.cell(1, 0, 2), 0);
        Check.due("6: two on it", x.cell(2, 1, 3), 12);
        Check.due("6: nobody on it", x.cell(1, 1, 3), 0);
        Check.due("6: off", x.cell(3, 0, 0), Check.UNKNOWN);
        Check.due("6: off to the south", x.cell(0, 2, 0), Check.UNKNOWN);
        Check.due("6: off to the west", x.cell(-1, 0, 9), Check.UNKNOWN);
        Check.due("6: off to the north", x.cell(0, -1, 9), Check.UNKNOWN);
        Check.due("6: far off", x.cell(Integer.MAX_VALUE, Integer.MAX_VALUE, 0), Check.UNKNOWN);
        Check.due("6: what", x.cell(0, 0, 4), Check.OUTSIDE);
        Check.due("6: what below", x.cell(0, 0, -1), Check.OUTSIDE);
        x.minute(1);
        Check.due("6: owner", x.cell(2, 1, 1), 3);
    }

    private static void wall() {
        FirstFelt x = Check.townOf(MANY);
        Check.due("7: east", x.wall(0, 0, 0), 1);
        Check.due("7: south", x.wall(1, 0, 1), 1);
        Check.due("7: none", x.wall(1, 0, 0), 0);
        Check.due("7: none to the south", x.wall(0, 0, 1), 0);
        Check.due("7: no cell to the east", x.wall(2, 0, 0), Check.UNKNOWN);
        Check.due("7: no cell to the south", x.wall(0, 1, 1), Check.UNKNOWN);
        Check.due("7: no cell", x.wall(3, 0, 2), Check.UNKNOWN);
        Check.due("7: d", x.wall(2, 1, 2), Check.OUTSIDE);
        Check.due("7: d below", x.wall(0, 0, -1), Check.OUTSIDE);
    }

    private static void stove() {
        FirstFelt x = Check.townOf(MANY);
        Check.due("8: cell", x.stove(1, 0), 21);
        Check.due("8: S", x.stove(1, 1), 30);
        Check.due("8: wood", x.stove(1, 2), 5);
        Check.due("8: out", x.stove(1, 3), 0);
        x.light(1);
        Check.due("8: burns", x.stove(1, 3), 1);
        x.minute(4);
        Check.due("8: wood is less", x.stove(1, 2), 1);
        Check.due("8: burns on", x.stove(1, 3), 1);
        x.minute(1);
        Check.due("8: no wood", x.stove(1, 2), 0);
        Check.due("8: out without any", x.stove(1, 3), 0);
        Check.due("8: unknown", x.stove(2, 0), Check.UNKNOWN);
        Check.due("8: unknown below", x.stove(-1, 9), Check.UNKNOWN);
        Check.due("8: what", x.stove(0, 4), Check.OUTSIDE);
        Check.due("8: what below", x.stove(0, -1), Check.OUTSIDE);
    }

    private static void person() {
        FirstFelt x = Check.townOf(MANY);
        int[] want = {21, 10, 9, 1, 0, 0, 0, 0};
        for (int what = 0; what < want.length; what++) {
            Check.due("9: person " + what, x.person(3, what), want[what]);
        }
        x.minute(1);
        Check.due("9: owns", x.person(3, 6), 1);
        Check.due("9: unknown", x.person(4, 0), Check.UNKNOWN);
        Check.due("9: unknown below", x.person(-1, 99), Check.UNKNOWN);
        Check.due("9: what", x.person(0, 8), Check.OUTSIDE);
        Check.due("9: what below", x.person(0, -1), Check.OUTSIDE);
    }
}
