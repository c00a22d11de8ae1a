/** Boundaries that part 1, THE TOWN, names. */
public final class EdgesOfTextTest {
    public static void main(String[] args) {
        Edges.runAll(EdgesOfTextTest.class);
    }

    /** A number of a clause: faults at that letter if it is one below the least or one above the most. */
    private static void bounds(String ahead, String behind, int least, int most, int cells) {
        Check.good(ahead + least + behind, cells);
        Check.good(ahead + most + behind, cells);
        Check.fault(ahead + (most + 1) + behind, 2, ahead.length());
        if (least > 0) {
            Check.fault(ahead + (least - 1) + behind, 2, ahead.length());
        }
    }

    /** So many clauses of a 5 by 4 town, each for a CELL of its own. */
    private static String many(char word, int count, String behind) {
        StringBuilder text = new StringBuilder("t5 4 0;");
        for (int i = 0; i < count; i++) {
            text.append(word).append(i % 4).append(' ').append(i / 4).append(behind).append(';');
        }
        return text.toString();
    }

    /** That many are good; one more has fault 3 at its word, whatever stands behind that. */
    private static void atMost(char word, int count, String behind) {
        String full = many(word, count, behind);
        Check.good(full, 20);
        Check.fault(many(word, count + 1, behind), 3, full.length());
        Check.fault(full + word, 3, full.length());
        Check.fault(full + "  " + word + "x", 3, full.length() + 2);
    }

    @Says("======== 1 THE TOWN is told in a text (260 letters at most): clauses:")
    static void aTextHas260LettersAtMost() {
        String town = "t2 1 0;";
        FirstFelt x = new FirstFelt();
        Check.feedAll(x, town + " ".repeat(260 - town.length()));
        Check.due("one more", x.feed(' '), Check.FULL);
        Check.due("a town of 260 letters", x.town(), 2);
        // The last ';' would be the 261st letter: without it the text has a fault at its end.
        Check.fault(" ".repeat(254) + town, 1, 260);
        Check.good(" ".repeat(253) + town, 2);
    }

    @Says("(CELLS X 0 .. W less 1, Y 0 .. H less 1;")
    static void cellsAreBelowWidthAndHeight() {
        FirstFelt x = Check.townOf("t3 2 5;r2 1;r0 0;");
        Check.due("the last", x.cell(2, 1, 2), 1);
        Check.due("the first", x.cell(0, 0, 2), 1);
        Check.due("X too large", x.cell(3, 1, 2), Check.UNKNOWN);
        Check.due("Y too large", x.cell(2, 2, 2), Check.UNKNOWN);
        Check.due("X below 0", x.cell(-1, 1, 2), Check.UNKNOWN);
        Check.due("Y below 0", x.cell(2, -1, 2), Check.UNKNOWN);
        Check.fault("t3 2 5;r3 1;", 2, 8);
        Check.fault("t3 2 5;r2 2;", 2, 10);
    }

    @Says("W, H 1 .. 6, 20 CELLS at most;")
    static void sidesAndCells() {
        Check.fault("t0 1 0;", 2, 1);
        Check.good("t1 1 0;", 1);
        Check.good("t6 1 0;", 6);
        Check.fault("t7 1 0;", 2, 1);
        Check.fault("t1 0 0;", 2, 3);
        Check.good("t1 6 0;", 6);
        Check.fault("t1 7 0;", 2, 3);
        Check.good("t5 4 0;", 20);
        Check.good("t4 5 0;", 20);
        Check.good("t6 3 0;", 18);
        Check.good("t3 6 0;", 18);
        Check.fault("t5 5 0;", 2, 3);
        Check.fault("t6 4 0;", 2, 3);
        Check.fault("t4 6 0;", 2, 3);
        Check.fault("t6 6 0;", 2, 3);
        FirstFelt x = Check.townOf("t5 4 40;p4 3 0 1 0;");
        Check.due("the 20th cell", x.cell(4, 3, 0), 40);
        x.law(1);
        x.minute(60);
        Check.due("the 20th cell later", x.cell(4, 3, 0), 40);
        Check.due("it is owned", x.cell(4, 3, 1), 0);
        Check.due("one of twenty", x.person(0, 6), 1);
        Check.due("two more of twenty may be", x.stands(0, 2, Check.NONE), 3);
        Check.due("twenty have no rent at 40", x.rents(Check.NONE), 0);
    }

    @Says("HEAT B of each at first, 0 .. 200; first, once)")
    static void heatAtFirst() {
        bounds("t2 1 ", ";", 0, 200, 2);
        Check.due("the first cell of 200", Check.townOf("t2 1 200;").cell(0, 0, 0), 200);
        Check.due("the last cell of 200", Check.townOf("t2 1 200;").cell(1, 0, 0), 200);
        Check.due("a cell of 0", Check.townOf("t2 1 0;").cell(1, 0, 0), 0);
        Check.fault("r0 0;t1 1 0;", 1, 0);
        Check.fault("t1 1 0;t1 1 0;", 3, 7);
    }

    @Says("'w' X Y D ';' (12 WALLS at most:")
    static void twelveWalls() {
        atMost('w', 12, " 0");
        FirstFelt x = Check.townOf(many('w', 12, " 0"));
        Check.due("all twelve", x.told(2), 12);
        Check.feedAll(x, many('w', 12, " 0"));
        Check.due("twelve in the next town, too", x.town(), 20);
    }

    @Says("between a CELL and the one to its east (D 0) or south (D 1); each once)")
    static void wallsToTheEastOrSouth() {
        bounds("t2 2 0;w0 0 ", ";", 0, 1, 4);
        FirstFelt x = Check.townOf("t2 2 0;w0 0 0;p0 0 0 1 0;p1 0 0 1 0;");
        Check.due("there", x.wall(0, 0, 0), 1);
        Check.due("not to the south", x.wall(0, 0, 1), 0);
        Check.due("from its west", x.go(0, 2), Check.NOT);
        Check.due("from its east", x.go(1, 4), Check.NOT);
        Check.due("around it", x.go(0, 3), 1);
        x = Check.townOf("t2 2 0;w0 0 1;p0 0 0 1 0;p0 1 0 1 0;");
        Check.due("there, to the south", x.wall(0, 0, 1), 1);
        Check.due("not to the east", x.wall(0, 0, 0), 0);
        Check.due("from its north", x.go(0, 3), Check.NOT);
        Check.due("from its south", x.go(1, 1), Check.NOT);
        Check.fault("t2 2 0;w0 0 1;w0 0 1;", 4, 19);
        Check.good("t2 2 0;w0 0 1;w0 0 0;w1 0 1;w0 1 0;", 4);
    }

    @Says("'o' X Y S F ';' (4 STOVES at most: on a CELL, one on each;")
    static void fourStovesOneOnEachCell() {
        atMost('o', 4, " 9 9");
        Check.due("all four", Check.townOf(many('o', 4, " 9 9")).told(3), 4);
        Check.fault("t2 1 0;o1 0 9 9;o1 0 9 9;", 4, 19);
        Check.good("t2 1 0;o1 0 9 9;o0 0 9 9;", 2);
        // On one cell with a roof and people is a stove all the same.
        Check.good("t1 1 0;r0 0;p0 0 0 1 0;o0 0 9 9;", 1);
    }

    @Says("S 1 .. 60 a minute, as long as WOOD lasts,")
    static void stovesGiveOneToSixty() {
        bounds("t1 1 0;o0 0 ", " 9;", 1, 60, 1);
        FirstFelt x = Check.townOf("t2 1 0;w0 0 0;o0 0 1 2;o1 0 49 1;");
        x.light(0);
        x.light(1);
        x.minute(1);
        Check.due("1 in a minute", x.cell(0, 0, 0), 1);
        Check.due("49 in a minute", x.cell(1, 0, 0), 49);
        x.minute(1);
        Check.due("1 in a minute more", x.cell(0, 0, 0), 2);
        Check.due("no wood, nothing more", x.cell(1, 0, 0), 49);
        x.minute(1);
        Check.due("as long as wood lasts", x.cell(0, 0, 0), 2);
    }

    @Says("F 0 .. 99 minutes; out at first)")
    static void stovesHaveWoodAndAreOut() {
        bounds("t1 1 0;o0 0 1 ", ";", 0, 99, 1);
        FirstFelt x = Check.townOf("t2 1 0;o0 0 60 0;o1 0 60 99;");
        Check.due("none", x.stove(0, 2), 0);
        Check.due("99", x.stove(1, 2), 99);
        Check.due("out", x.stove(1, 3), 0);
        x.minute(1);
        Check.due("it gives nothing", x.cell(1, 0, 0), 0);
        Check.due("it burns nothing", x.stove(1, 2), 99);
        x.light(1);
        x.minute(60);
        x.minute(38);
        Check.due("the 99th minute is to come", x.stove(1, 3), 1);
        x.minute(1);
        Check.due("out behind 99", x.stove(1, 3), 0);
    }

    @Says("'r' X Y ';' (12 ROOFS at most: no sun on that CELL; each once)")
    static void twelveRoofs() {
        atMost('r', 12, "");
        Check.due("all twelve", Check.townOf(many('r', 12, "")).told(4), 12);
        Check.fault("t2 1 0;r1 0;r1 0;", 4, 15);
        FirstFelt x = Check.townOf("t2 1 0;w0 0 0;r1 0;s9;");
        x.minute(1);
        Check.due("sun", x.cell(0, 0, 0), 9);
        Check.due("none under a roof", x.cell(1, 0, 0), 0);
    }

    @Says("'s' A {',' A} ';' (1 to 8 hours that come round:")
    static void oneToEightHours() {
        Check.fault("t1 1 0;s;", 1, 8);
        Check.fault("t1 1 0;s,;", 1, 8);
        Check.fault("t1 1 0;s1,;", 1, 10);
        Check.fault("t1 1 0;s1,2,3,4,5,6,7,8,9;", 1, 23);
        FirstFelt x = Check.townOf("t1 1 0;s7;");
        Check.due("one", x.told(5), 1);
        x.minute(6);
        Check.due("it comes round", x.told(11), 7);
        x = Check.townOf("t1 1 0;s1,2,3,4,5,6,7,8;");
        Check.due("eight", x.told(5), 8);
        x.minute(47);
        Check.due("the eighth to its end", x.told(11), 8);
        x.minute(1);
        Check.due("the first again", x.told(11), 1);
    }

    @Says("THE SUN gives A, 0 .. 30, each minute to CELLS without a ROOF;")
    static void theSunGivesUpToThirty() {
        bounds("t1 1 0;s", ";", 0, 30, 1);
        bounds("t1 1 0;s1,1,1,1,1,1,1,", ";", 0, 30, 1);
        FirstFelt x = Check.townOf("t2 1 0;w0 0 0;r0 0;s30;");
        x.minute(1);
        Check.due("under a roof", x.cell(0, 0, 0), 0);
        Check.due("without one", x.cell(1, 0, 0), 30);
        x.minute(1);
        Check.due("each minute", x.cell(1, 0, 0), 59);
    }

    @Says("an hour has 6 minutes here; 0 untold; once)")
    static void anHourHasSixMinutes() {
        FirstFelt x = Check.townOf("t1 1 0;s3,5;");
        x.minute(5);
        Check.due("the sixth minute", x.told(11), 3);
        Check.due("five minutes' sun", x.cell(0, 0, 0), 15);
        x.minute(1);
        Check.due("the seventh", x.told(11), 5);
        Check.due("six minutes' sun", x.cell(0, 0, 0), 18);
        x.minute(1);
        Check.due("the second hour's", x.cell(0, 0, 0), 23);
        x = Check.townOf("t1 1 0;");
        Check.due("untold, no hours", x.told(5), 0);
        Check.due("untold, no sun", x.told(11), 0);
        x.minute(60);
        Check.due("untold, no heat", x.cell(0, 0, 0), 0);
        Check.fault("t1 1 0;s3,5;s3;", 3, 12);
        Check.fault("t1 1 0;s0;s0;", 3, 10);
    }

    @Says("'p' X Y K T V ';' (6 PEOPLE at most: on a CELL;")
    static void sixPeople() {
        atMost('p', 6, " 0 1 0");
        Check.due("all six", Check.townOf(many('p', 6, " 0 1 0")).told(6), 6);
        // More than one may be on a cell.
        FirstFelt x = Check.townOf("t1 1 0;p0 0 1 1 0;p0 0 1 1 0;p0 0 1 1 0;p0 0 1 1 0;p0 0 1 1 0;p0 0 1 1 0;");
        Check.due("all on one", x.cell(0, 0, 3), 63);
        Check.fault("t1 1 0;p1 0 1 1 0;", 2, 8);
        Check.fault("t1 1 0;p0 1 1 1 0;", 2, 10);
    }

    @Says("SKIN K 0 .. 300;")
    static void skinsAreUpTo300() {
        bounds("t1 1 0;p0 0 ", " 1 0;", 0, 300, 1);
        Check.due("300", Check.townOf("t1 1 0;p0 0 300 1 0;").person(0, 1), 300);
        Check.due("0", Check.townOf("t1 1 0;p0 0 0 1 0;").person(0, 1), 0);
    }

    @Says("notices T 1 .. 60;")
    static void nosesNoticeOneToSixty() {
        bounds("t1 1 0;p0 0 0 ", " 0;", 1, 60, 1);
        Check.due("60", Check.townOf("t1 1 0;p0 0 0 60 0;").person(0, 2), 60);
        Check.due("1", Check.townOf("t1 1 0;p0 0 0 1 0;").person(0, 2), 1);
    }

    @Says("FEVER V, 0 .. 9).")
    static void feversAreUpToNine() {
        bounds("t1 1 0;p0 0 0 1 ", ";", 0, 9, 1);
        FirstFelt x = Check.townOf("t2 1 0;w0 0 0;p0 0 0 1 9;p1 0 0 1 0;");
        Check.due("9", x.person(0, 3), 9);
        x.minute(1);
        Check.due("it gives 9", x.cell(0, 0, 0), 9);
        Check.due("none gives nothing", x.cell(1, 0, 0), 0);
    }

    @Says("NUMBERS have one to three figures;")
    static void numbersHaveOneToThreeFigures() {
        Check.good("t2 1 7;", 2);
        Check.good("t02 01 07;", 2);
        Check.good("t002 001 007;", 2);
        Check.fault("t0002 1 7;", 2, 1);
        Check.fault("t2 0001 7;", 2, 3);
        Check.fault("t2 1 0007;", 2, 5);
        Check.due("007", Check.townOf("t1 1 007;").cell(0, 0, 0), 7);
        Check.due("199", Check.townOf("t1 1 199;").cell(0, 0, 0), 199);
        // No figure at all: the letter that stands there cannot.
        Check.fault("t;", 1, 1);
        Check.fault("t1 1 ;", 1, 5);
    }

    @Says("a word is one letter;")
    static void aWordIsOneLetter() {
        Check.fault("tt1 1 0;", 1, 1);
        Check.fault("town1 1 0;", 1, 1);
        Check.fault("t1 1 0;ro0 0;", 1, 8);
        Check.fault("t1 1 0;roof0 0;", 1, 8);
        Check.good("t1 1 0;r0 0;", 1);
    }

    @Says("blanks (32) may stand anywhere but within NUMBERS;")
    static void blanksAnywhereButWithinNumbers() {
        Check.good("  t  2  1  0  ;  w  0  0  0  ;  s  1  ,  2  ;  ", 2);
        Check.good("t2 1 0;w0 0 0;s1,2;", 2);
        // 2 0 are two numbers, of which the second cannot stand there.
        Check.fault("t2 1 2 0;", 1, 7);
        Check.fault("t2 1 0;s1 2;", 1, 10);
        for (int letter : new int[] {0, 9, 10, 13, 31, 33, 160, 255}) {
            Check.fault("t2 1 0;" + (char) letter, 1, 7);
            Check.fault((char) letter + "t2 1 0;", 1, 0);
            Check.fault("t2" + (char) letter + "1 0;", 1, 2);
        }
    }

    @Says("two NUMBERS side by side need one.")
    static void twoNumbersNeedABlank() {
        Check.good("t2 1 0;r1 0;", 2);
        // 21 is one number, out of its bounds; 10 is, too.
        Check.fault("t21 0;", 2, 1);
        Check.fault("t2 1 0;r10;", 2, 8);
        // 001 is 1, so that a number is missing.
        Check.fault("t2 1 0;r001;", 1, 11);
    }

    @Says("FAULTS, at the first letter that has one")
    static void theFirstLetterThatHasAFault() {
        Check.fault("t7 7 201x", 2, 1);
        Check.fault("t1 7 201x", 2, 3);
        Check.fault("t1 1 201x", 2, 5);
        Check.fault("t1 1 200x", 1, 8);
        Check.fault("t1 1 0;t;x", 3, 7);
        Check.fault("t2 2 0;r0 0;r0 0;r9 9;x", 4, 15);
        Check.fault("t2 2 0;r0 0;r9 0;x", 2, 13);
        Check.fault("t2 2 0;r0 0;r0 9;r0 0;", 2, 15);
        Check.fault("t2 2 0;w0 0 0;w0 0 0x", 4, 19);
        // A number is at its first figure.
        Check.fault("t2 2 0;o0 0 100 1;", 2, 12);
        Check.fault("t2 2 0;p0 0 999 99 99;", 2, 12);
    }

    @Says("(the end at the text's length)")
    static void theEndIsAtTheTextsLength() {
        String whole = "t2 2 1;w0 0 0;o1 1 5 6;r0 1;s3,4;p1 0 7 8 9;";
        for (int end = 1; end < whole.length(); end++) {
            String text = whole.substring(0, end);
            if (whole.charAt(end - 1) == ';') {
                Check.good(text, 4);
            } else {
                Check.fault(text, 1, end);
                Check.fault(text + "   ", 1, end + 3);
            }
            // Letters of an earlier, longer text are no part of it.
            for (char left : new char[] {';', ',', '1', ' '}) {
                FirstFelt x = new FirstFelt();
                Check.feedAll(x, String.valueOf(left).repeat(120));
                x.town();
                Check.feedAll(x, text);
                boolean complete = whole.charAt(end - 1) == ';';
                Check.due("behind " + left + ", \"" + text + "\"", x.town(), complete ? 4 : -11);
                Check.due("behind " + left + ", fault of \"" + text + "\"", x.fault(), complete ? Check.NONE : end);
            }
        }
    }

    @Says("of these the least:")
    static void theLeastFaultAtOneLetter() {
        // A number that cannot stand there and has four figures; words again that cannot stand there.
        Check.fault("t1 1 0 1111;", 1, 7);
        Check.fault("1111", 1, 0);
        Check.fault("t1 1 t", 1, 5);
        Check.fault("t1 1 0;s1 s1;", 1, 10);
        String six = many('p', 5, " 0 1 0") + "p0 0 0 1 0";
        Check.fault(six + "p", 1, six.length());
        String four = many('o', 3, " 9 9") + "o3 0 9 9";
        Check.fault(four + "o", 1, four.length());
        Check.fault("t5 4 0;s1,1,1,1,1,1,1,1,99;", 1, 23);
    }

    @Says("1 it cannot stand there (a letter that is no word, another word first than 't';")
    static void lettersThatCannotStandThere() {
        for (int letter = 0; letter <= 255; letter++) {
            char c = (char) letter;
            if ("tworsp ".indexOf(c) < 0) {
                Check.fault("t1 1 0;" + c, 1, 7);
            }
            if (c != 't' && c != ' ') {
                Check.fault(String.valueOf(c), 1, 0);
            }
            if (c != ';' && c != ' ' && (c < '0' || c > '9')) {
                Check.fault("t1 1 0" + c, 1, 6);
                Check.fault("t1 1 0;s1,2" + c, 1, c == ',' ? 12 : 11);
                if (c != ',') {
                    Check.fault("t1 1 0;s1" + c + "2;", 1, 9);
                    Check.fault("t1 1 0;s1,2 " + c + " 3;", 1, 12);
                }
            }
        }
        for (String word : new String[] {"w0 0 0;", "o0 0 1 1;", "r0 0;", "s1;", "p0 0 0 1 0;"}) {
            Check.fault(word + "t2 2 0;", 1, 0);
            Check.fault("  " + word, 1, 2);
            Check.good("t2 2 0;" + word, 4);
        }
    }

    @Says("a ninth A: at its ',').")
    static void aNinthHourIsAtItsComma() {
        Check.good("t1 1 0;s1,2,3,4,5,6,7,8;", 1);
        Check.fault("t1 1 0;s1,2,3,4,5,6,7,8,9;", 1, 23);
        Check.fault("t1 1 0;s1,2,3,4,5,6,7,8,", 1, 23);
        Check.fault("t1 1 0;s1,2,3,4,5,6,7,8 , 9;", 1, 24);
        Check.fault("t1 1 0;s1,2,3,4,5,6,7,88,9;", 2, 22);
    }

    @Says("2 a NUMBER of four figures or more, or out of its bounds;")
    static void fourFiguresOrOutOfBounds() {
        Check.fault("t1 1 0000;", 2, 5);
        Check.fault("t1 1 00000;", 2, 5);
        Check.fault("t1 1 1000;", 2, 5);
        Check.fault("t1 1 999;", 2, 5);
        // These would be 1, or below 0, if an int took them whole.
        Check.fault("t1 1 4294967297;", 2, 5);
        Check.fault("t1 1 2147483648;", 2, 5);
        Check.fault("t1 1 18446744073709551617;", 2, 5);
        Check.fault("t1 1 " + "0".repeat(255), 2, 5);
        Check.fault("t1 1 " + "9".repeat(255), 2, 5);
        Check.fault("t1 1 0;s1,0001;", 2, 10);
        Check.fault("t1 1 0;p0 0 0001 1 0;", 2, 12);
    }

    @Says("more than 20 CELLS (at the H);")
    static void moreThanTwentyCellsIsAtTheH() {
        Check.good("t5 4 0;", 20);
        Check.fault("t5 5 0;", 2, 3);
        Check.fault("t 6   4 0;", 2, 6);
        Check.fault("t4 006 0;", 2, 3);
        Check.fault("t4 6", 2, 3);
        Check.fault("t4 6 999;", 2, 3);
    }

    @Says("a CELL that there is not, that has no CELL to its east, south (at the D).")
    static void cellsThatThereAreNot() {
        for (char word : new char[] {'w', 'o', 'r', 'p'}) {
            Check.fault("t3 2 0;" + word + "3 0 0;", 2, 8);
            Check.fault("t3 2 0;" + word + "0 2 0;", 2, 10);
            Check.fault("t3 2 0;" + word + "3 2 0;", 2, 8);
        }
        Check.fault("t3 2 0;w2 0 0;", 2, 12);
        Check.fault("t3 2 0;w2 1 0;", 2, 12);
        Check.fault("t3 2 0;w0 1 1;", 2, 12);
        Check.fault("t3 2 0;w2 1 1;", 2, 12);
        Check.good("t3 2 0;w1 0 0;w1 1 0;w0 0 1;w2 0 1;", 6);
        Check.fault("t1 1 0;w0 0 0;", 2, 12);
        Check.fault("t1 1 0;w0 0 1;", 2, 12);
    }

    @Says("3 't', 's' again, a 13th 'w', 'r', a fifth 'o', a seventh 'p' (at it).")
    static void wordsTooOften() {
        Check.fault("t1 1 0;t", 3, 7);
        Check.fault("t1 1 0; t1 1 0;", 3, 8);
        Check.fault("t1 1 0;s1;s", 3, 10);
        Check.fault("t1 1 0;s1; s1;", 3, 11);
        for (Object[] kind : new Object[][] {{'w', 12, " 0"}, {'r', 12, ""}, {'o', 4, " 9 9"}, {'p', 6, " 0 1 0"}}) {
            String full = many((char) kind[0], (int) kind[1], (String) kind[2]);
            Check.good(full, 20);
            Check.fault(full + kind[0], 3, full.length());
        }
    }

    @Says("4 a CELL again, for 'o', 'r' (at the Y);")
    static void aCellAgainIsAtTheY() {
        Check.fault("t2 2 0;o0 1 9 9;o0 1 9 9;", 4, 19);
        Check.fault("t2 2 0;o0 1 9 9;o0 1", 4, 19);
        Check.fault("t2 2 0;o0 1 9 9;o00   01 99 9;", 4, 22);
        Check.fault("t2 2 0;r0 1;r0 1;", 4, 15);
        Check.fault("t2 2 0;r0 1;r0 1", 4, 15);
        Check.good("t2 2 0;o0 1 9 9;o1 0 9 9;r0 1;r1 0;r0 0;", 4);
        Check.good("t2 2 0;p0 1 0 1 0;p0 1 0 1 0;", 4);
    }

    @Says("a WALL again (at the D).")
    static void aWallAgainIsAtTheD() {
        Check.fault("t2 2 0;w0 0 0;w0 0 0;", 4, 19);
        Check.fault("t2 2 0;w0 0 1;w0 0 1", 4, 19);
        Check.fault("t2 2 0;w0 0 1;w1 0 1;w0  0  001;", 4, 28);
        Check.good("t2 2 0;w0 0 0;w0 0 1;", 4);
    }

    @Says("An empty text: no CELLS.")
    static void anEmptyTextHasNoCells() {
        FirstFelt x = Check.townOf("t2 1 9;o0 0 1 1;s1;p0 0 1 1 1;");
        x.minute(7);
        Check.due("town", x.town(), 0);
        Check.due("fault", x.fault(), Check.NONE);
        for (int what = 0; what <= 14; what++) {
            Check.due("told " + what, x.told(what), what == 10 ? 3 : 0);
        }
        Check.due("cell", x.cell(0, 0, 0), Check.UNKNOWN);
        Check.due("stove", x.stove(0, 0), Check.UNKNOWN);
        Check.due("person", x.person(0, 0), Check.UNKNOWN);
        Check.due("minute", x.minute(1), Check.NOT);
        Check.good("", 0);
    }
}
