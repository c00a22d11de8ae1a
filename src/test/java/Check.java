/** What the tests share: answers that are due, and towns told as texts. */
final class Check {
    static final int NONE = FirstFelt.NONE;
    static final int UNKNOWN = FirstFelt.UNKNOWN;
    static final int OUTSIDE = FirstFelt.OUTSIDE;
    static final int NOT = FirstFelt.NOT;
    static final int FULL = FirstFelt.FULL;

    private static int right = 0;
    private static int wrong = 0;

    private Check() {
    }

    static void due(String what, long got, long want) {
        if (got == want) {
            right++;
        } else {
            wrong++;
            System.out.println(what + " answered " + got + ", due is " + want);
        }
    }

    static void feedAll(FirstFelt x, String text) {
        for (int i = 0; i < text.length(); i++) {
            x.feed(text.charAt(i));
        }
    }

    /** A new object with that town. */
    static FirstFelt townOf(String text) {
        FirstFelt x = new FirstFelt();
        feedAll(x, text);
        int cells = x.town();
        if (cells < 0) {
            wrong++;
            System.out.println("the town \"" + text + "\" has a fault: " + cells + " at " + x.fault());
        }
        return x;
    }

    /** Ends the test, with exit code 1 if an answer was not the one that is due. */
    static void end(String name) {
        System.out.println(name + ": " + right + " answers as due, " + wrong + " not");
        if (wrong != 0) {
            System.exit(1);
        }
    }
}
