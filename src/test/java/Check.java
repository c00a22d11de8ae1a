/** What the tests share: answers that are due, and towns told as texts. */
final class Check {
    static final int NONE = FirstFelt.NONE;
    static final int UNKNOWN = FirstFelt.UNKNOWN;
    static final int OUTSIDE = FirstFelt.OUTSIDE;
    static final int NOT = FirstFelt.NOT;
    static final int FULL = FirstFelt.FULL;

    private static int right = 0;
    private static int wrong = 0;
    /** Ahead of each line that is printed: the test and its sentence. */
    private static String heading = "";
    private static boolean quiet = false;

    private Check() {
    }

    static void due(String what, long got, long want) {
        if (got == want) {
            right++;
        } else {
            fail(what + " answered " + got + ", due is " + want);
        }
    }

    static void fail(String how) {
        wrong++;
        if (!quiet) {
            System.out.println(heading + how);
        }
    }

    static void head(String text) {
        heading = text;
    }

    /** For programs with a fault put into them: their wrong answers are counted, not printed. */
    static void beQuiet() {
        quiet = true;
    }

    static int wrongOnes() {
        return wrong;
    }

    static void feedAll(FirstFelt x, String text) {
        for (int i = 0; i < text.length(); i++) {
            x.feed(text.charAt(i));
        }
    }

    /** A new object with that town. */
    static FirstFelt townOf(String text) {
        FirstFelt x = new FirstFelt();
        feedAll(x, text);
        int cells = x.town();
        if (cells < 0) {
            fail("the town \"" + text + "\" has a fault: " + cells + " at " + x.fault());
        }
        return x;
    }

    /** A text that has that fault at that letter. */
    static void fault(String text, int number, int letter) {
        FirstFelt x = new FirstFelt();
        feedAll(x, text);
        due("town \"" + text + "\"", x.town(), -10 - number);
        due("fault \"" + text + "\"", x.fault(), letter);
    }

    /** A text without a fault, told behind one that had one. */
    static void good(String text, int cells) {
        FirstFelt x = new FirstFelt();
        feedAll(x, "x");
        x.town();
        feedAll(x, text);
        due("town \"" + text + "\"", x.town(), cells);
        due("fault \"" + text + "\"", x.fault(), NONE);
    }

    /** Ends the test, with exit code 1 if an answer was not the one that is due. */
    static void end(String name) {
        head("");
        System.out.println(name + ": " + right + " answers as due, " + wrong + " not");
        if (wrong != 0) {
            System.exit(1);
        }
    }
}
