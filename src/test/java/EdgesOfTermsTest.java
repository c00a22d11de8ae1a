import java.util.ArrayList;
import java.util.LinkedHashMap;
import java.util.List;
import java.util.Map;
import java.util.function.ToIntFunction;

/** Boundaries that "What it is" and "Terms" name. */
public final class EdgesOfTermsTest {
    /** Behind three minutes the first STOVE burns, the second has no WOOD; an IMAGE, a CLAIM and a DEED are there. */
    private static final String BUSY = "t2 1 90;w0 0 0;o0 0 60 5;o1 0 9 0;s4,1;p0 0 20 5 1;p1 0 100 9 0;p0 0 80 50 0;";

    public static void main(String[] args) {
        Edges.runAll(EdgesOfTermsTest.class);
    }

    private static FirstFelt busy() {
        FirstFelt x = Check.townOf(BUSY);
        x.light(0);
        x.seed(17);
        x.minute(3);
        x.claim(0, 0, 3);
        x.deed(1, 10, 2);
        x.keep(0);
        return x;
    }

    @Says("An object is used for at most 512 calls after it has been made; what later calls answer is free.")
    static void the512thCallStillAnswers() {
        FirstFelt x = Check.townOf("t1 1 0;");
        // Seven letters and town() were the first eight calls.
        for (int call = 9; call <= 512; call++) {
            Check.due("call " + call, x.minute(60), (call - 8) * 60);
        }
    }

    @Says("All numbers are whole; / cuts towards 0.")
    static void divisionCutsTowardsZero() {
        FirstFelt x = Check.townOf("t2 1 0;o0 0 7 1;p1 0 3 1 0;p1 0 5 1 0;");
        x.light(0);
        x.minute(1);
        Check.due("-3 / 4", x.person(0, 1), 3);
        Check.due("-5 / 4", x.person(1, 1), 4);
        x.minute(1);
        Check.due("-7 / 8", x.cell(0, 0, 0), 7);
        Check.due("7 / 8", x.cell(1, 0, 0), 0);
    }

    @Says("What has a number has it from 0 on, as it comes.")
    static void numbersAreFromZeroAsTheyCome() {
        FirstFelt x = Check.townOf("t3 1 0;o2 0 9 1;o0 0 8 1;p1 0 7 1 0;p0 0 6 1 0;p1 0 5 1 0;");
        Check.due("the first stove", x.stove(0, 0), 20);
        Check.due("the second stove", x.stove(1, 0), 0);
        Check.due("no third", x.stove(2, 0), Check.UNKNOWN);
        Check.due("none ahead of the first", x.stove(-1, 0), Check.UNKNOWN);
        for (int p = 0; p < 3; p++) {
            Check.due("person " + p, x.person(p, 1), 7 - p);
        }
        Check.due("no fourth", x.person(3, 1), Check.UNKNOWN);
    }

    @Says("A SET is a whole number, bit k for k (of PEOPLE, if nothing else is told).")
    static void setsHaveABitForEach() {
        FirstFelt x = Check.townOf("t2 1 0;p0 0 0 1 0;p0 0 0 1 0;p0 0 0 1 0;p0 0 0 1 0;p0 0 0 1 0;p0 0 0 1 0;");
        Check.due("all", x.cell(0, 0, 3), 63);
        Check.due("nobody", x.cell(1, 0, 3), 0);
        x.go(5, 2);
        Check.due("the last", x.cell(1, 0, 3), 32);
        Check.due("the others", x.cell(0, 0, 3), 31);
        x.go(0, 2);
        Check.due("the first and the last", x.cell(1, 0, 3), 33);
    }

    private static int constant(String name) {
        try {
            // Not by its name in the code: javac would write the number into this test.
            return FirstFelt.class.getField(name).getInt(null);
        } catch (ReflectiveOperationException e) {
            Check.fail("no constant " + name);
            return 0;
        }
    }

    @Says("NONE is -1.")
    static void noneIsMinusOne() {
        Check.due("NONE", constant("NONE"), -1);
    }

    @Says("They are far below all that is counted: -1000000001 and on.")
    static void refusalsAreFarBelow() {
        Check.due("UNKNOWN", constant("UNKNOWN"), -1000000001);
        Check.due("OUTSIDE", constant("OUTSIDE"), -1000000002);
        Check.due("NOT", constant("NOT"), -1000000003);
        Check.due("FULL", constant("FULL"), -1000000004);
    }

    @Says("REFUSALS, of several the first in this order:")
    static void theFirstOfSeveralRefusals() {
        FirstFelt x = busy();
        Check.due("cell, UNKNOWN ahead of OUTSIDE", x.cell(2, 0, 4), Check.UNKNOWN);
        Check.due("wall, UNKNOWN ahead of OUTSIDE", x.wall(2, 0, 2), Check.UNKNOWN);
        Check.due("stove, UNKNOWN ahead of OUTSIDE", x.stove(2, 4), Check.UNKNOWN);
        Check.due("person, UNKNOWN ahead of OUTSIDE", x.person(3, 8), Check.UNKNOWN);
        Check.due("go, UNKNOWN ahead of OUTSIDE", x.go(3, 5), Check.UNKNOWN);
        Check.due("build, UNKNOWN ahead of OUTSIDE", x.build(2, 0, 2, true), Check.UNKNOWN);
        Check.due("stoke, UNKNOWN ahead of OUTSIDE", x.stoke(2, 100), Check.UNKNOWN);
        Check.due("then, UNKNOWN ahead of OUTSIDE", x.then(2, 0, 61, 2), Check.UNKNOWN);
        Check.due("stands, UNKNOWN ahead of OUTSIDE", x.stands(3, 6, 0), Check.UNKNOWN);
        Check.due("lightFor, UNKNOWN person ahead of OUTSIDE and NOT", x.lightFor(3, 0, 31), Check.UNKNOWN);
        Check.due("lightFor, UNKNOWN stove ahead of OUTSIDE", x.lightFor(0, 2, 31), Check.UNKNOWN);
        Check.due("lightFor, OUTSIDE ahead of NOT", x.lightFor(0, 0, 31), Check.OUTSIDE);
        Check.due("keptOut, UNKNOWN person ahead of OUTSIDE and NOT", x.keptOut(3, 0, 31), Check.UNKNOWN);
        Check.due("keptOut, UNKNOWN stove ahead of OUTSIDE", x.keptOut(0, 2, 31), Check.UNKNOWN);
        Check.due("keptOut, OUTSIDE ahead of NOT", x.keptOut(0, 0, 31), Check.OUTSIDE);
        Check.due("gain, UNKNOWN person ahead of OUTSIDE", x.gain(3, 0, 0, 2, 61), Check.UNKNOWN);
        Check.due("gain, UNKNOWN cell ahead of OUTSIDE", x.gain(0, 2, 0, 2, 61), Check.UNKNOWN);
        Check.due("gain, no cell there ahead of OUTSIDE", x.gain(0, 1, 0, 0, 61), Check.UNKNOWN);
        Check.due("claim, UNKNOWN person ahead of OUTSIDE", x.claim(3, 0, 60), Check.UNKNOWN);
        Check.due("claim, UNKNOWN cell ahead of OUTSIDE", x.claim(0, 20, 60), Check.UNKNOWN);
        Check.due("deed, UNKNOWN person ahead of OUTSIDE", x.deed(3, 0, 61), Check.UNKNOWN);
        Check.due("deed, UNKNOWN cell ahead of OUTSIDE", x.deed(0, 20, 61), Check.UNKNOWN);
        Check.due("goBack, UNKNOWN ahead of NOT", x.goBack(2), Check.UNKNOWN);
        fillText(x);
        fillPapers(x);
        Check.due("feed, OUTSIDE ahead of FULL", x.feed(256), Check.OUTSIDE);
        Check.due("claim, UNKNOWN ahead of FULL", x.claim(3, 0, 0), Check.UNKNOWN);
        Check.due("claim, OUTSIDE ahead of FULL", x.claim(0, 0, 60), Check.OUTSIDE);
        Check.due("deed, UNKNOWN ahead of FULL", x.deed(3, 0, 1), Check.UNKNOWN);
        Check.due("deed, OUTSIDE ahead of FULL", x.deed(0, 0, 61), Check.OUTSIDE);
        Edges.put(x, "minutes", Check.NONE, 900001);
        Check.due("minute, OUTSIDE ahead of FULL", x.minute(61), Check.OUTSIDE);
        Check.due("drift, OUTSIDE ahead of FULL", x.drift(61), Check.OUTSIDE);
        x = new FirstFelt();
        Check.due("minute, OUTSIDE ahead of NOT", x.minute(0), Check.OUTSIDE);
        Check.due("drift, OUTSIDE ahead of NOT", x.drift(0), Check.OUTSIDE);
        Edges.put(x, "minutes", Check.NONE, 900001);
        Check.due("minute, NOT ahead of FULL", x.minute(1), Check.NOT);
        Check.due("drift, NOT ahead of FULL", x.drift(1), Check.NOT);
    }

    private static void fillText(FirstFelt x) {
        Check.feedAll(x, " ".repeat(260));
    }

    private static void fillPapers(FirstFelt x) {
        for (int i = 0; i < 12; i++) {
            x.claim(0, 0, 3);
            x.deed(0, 0, 3);
        }
    }

    private static final int[] NO_PEOPLE = {-1, 3, Integer.MIN_VALUE, Integer.MAX_VALUE};
    private static final int[] NO_STOVES = {-1, 2, Integer.MIN_VALUE, Integer.MAX_VALUE};
    private static final int[] NO_IMAGES = {-1, 2, Integer.MIN_VALUE, Integer.MAX_VALUE};
    private static final int[][] NO_CELLS = {{-1, 0}, {2, 0}, {0, -1}, {0, 1}, {Integer.MIN_VALUE, 0}, {Integer.MAX_VALUE, 0},
        {0, Integer.MIN_VALUE}, {0, Integer.MAX_VALUE}};
    private static final int[] NO_PAIRS = {-1, 1, 9, 11, 20, -10, -11, Integer.MIN_VALUE, Integer.MAX_VALUE};

    @Says("UNKNOWN (a CELL, STOVE, PERSON, IMAGE that there is not; one twice; bits of such),")
    static void unknownOnes() {
        FirstFelt x = busy();
        for (int p : NO_PEOPLE) {
            Check.due("person " + p, x.person(p, 0), Check.UNKNOWN);
            Check.due("go " + p, x.go(p, 2), Check.UNKNOWN);
            Check.due("stands " + p, x.stands(p, 1, 0), Check.UNKNOWN);
            Check.due("lightFor " + p, x.lightFor(p, 1, 1), Check.UNKNOWN);
            Check.due("keptOut " + p, x.keptOut(p, 1, 1), Check.UNKNOWN);
            Check.due("gain " + p, x.gain(p, 0, 0, 0, 1), Check.UNKNOWN);
            Check.due("rents " + p, x.rents(p), p == Check.NONE ? x.rents(-1) : Check.UNKNOWN);
            Check.due("claim " + p, x.claim(p, 0, 0), Check.UNKNOWN);
            Check.due("deed " + p, x.deed(p, 0, 1), Check.UNKNOWN);
        }
        for (int k : NO_STOVES) {
            Check.due("stove " + k, x.stove(k, 0), Check.UNKNOWN);
            Check.due("light " + k, x.light(k), Check.UNKNOWN);
            Check.due("stoke " + k, x.stoke(k, 1), Check.UNKNOWN);
            Check.due("lightFor by " + k, x.lightFor(0, k, 1), Check.UNKNOWN);
            Check.due("keptOut by " + k, x.keptOut(0, k, 1), Check.UNKNOWN);
            Check.due("wasLit " + k, x.wasLit(k, -1), Check.UNKNOWN);
        }
        for (int[] c : NO_CELLS) {
            Check.due("cell " + c[0] + " " + c[1], x.cell(c[0], c[1], 0), Check.UNKNOWN);
            Check.due("wall " + c[0] + " " + c[1], x.wall(c[0], c[1], 0), Check.UNKNOWN);
            Check.due("build " + c[0] + " " + c[1], x.build(c[0], c[1], 0, true), Check.UNKNOWN);
            Check.due("then " + c[0] + " " + c[1], x.then(c[0], c[1], 1, 0), Check.UNKNOWN);
            Check.due("gain " + c[0] + " " + c[1], x.gain(0, c[0], c[1], 0, 1), Check.UNKNOWN);
        }
        // In a row that is not the first, one to the west would be the end of the row ahead of it.
        FirstFelt rows = Check.townOf("t2 2 0;p0 0 0 1 0;");
        Check.due("cell, west of a row", rows.cell(-1, 1, 0), Check.UNKNOWN);
        Check.due("cell, east of a row", rows.cell(2, 0, 0), Check.UNKNOWN);
        Check.due("wall, west of a row", rows.wall(-1, 1, 0), Check.UNKNOWN);
        Check.due("build, east of a row", rows.build(2, 0, 1, true), Check.UNKNOWN);
        Check.due("claim, east of a row", rows.claim(0, 20, 0), Check.UNKNOWN);
        for (int pair : NO_PAIRS) {
            Check.due("claim on " + pair, x.claim(0, pair, 0), Check.UNKNOWN);
            Check.due("deed on " + pair, x.deed(0, pair, 1), Check.UNKNOWN);
        }
        for (int i : NO_IMAGES) {
            Check.due("keep " + i, x.keep(i), Check.UNKNOWN);
            Check.due("goBack " + i, x.goBack(i), Check.UNKNOWN);
        }
    }

    private static void outside(String what, ToIntFunction<FirstFelt> call) {
        Check.due(what, call.applyAsInt(busy()), Check.OUTSIDE);
    }

    /** One below the least and one above the most, and as far off as may be. */
    @Says("OUTSIDE (another number out of its bounds),")
    static void numbersOutOfBounds() {
        int[][] bounds = {{0, 255}, {0, 14}, {0, 3}, {0, 1}, {0, 7}, {1, 4}, {1, 99}, {1, 20}, {1, 60}, {1, 5}, {1, 30}, {0, 59}};
        for (int[] bound : bounds) {
            int[] odd = {bound[0] - 1, bound[1] + 1, Integer.MIN_VALUE, Integer.MAX_VALUE};
            for (int v : odd) {
                outsideBy(bound[0], bound[1], v);
            }
        }
        outside("seed below", x -> x.seed(-1));
        outside("seed far below", x -> x.seed(Integer.MIN_VALUE));
    }

    private static void outsideBy(int least, int most, int v) {
        switch (least * 1000 + most) {
            case 255: outside("feed " + v, x -> x.feed(v)); break;
            case 14: outside("told " + v, x -> x.told(v)); break;
            case 3:
                outside("cell " + v, x -> x.cell(0, 0, v));
                outside("stove " + v, x -> x.stove(0, v));
                outside("law " + v, x -> x.law(v));
                outside("cold by " + v, x -> x.cold(v, 1));
                break;
            case 1:
                outside("wall " + v, x -> x.wall(0, 0, v));
                outside("build " + v, x -> x.build(0, 0, v, true));
                outside("then, what " + v, x -> x.then(0, 0, 1, v));
                outside("gain, d " + v, x -> x.gain(0, 0, 0, v, 1));
                break;
            case 7: outside("person " + v, x -> x.person(0, v)); break;
            case 1004: outside("go " + v, x -> x.go(0, v)); break;
            case 1099: outside("stoke " + v, x -> x.stoke(0, v)); break;
            case 1020: outside("last " + v, x -> x.last(v)); break;
            case 1060:
                outside("minute " + v, x -> x.minute(v));
                outside("drift " + v, x -> x.drift(v));
                outside("then, n " + v, x -> x.then(0, 0, v, 0));
                outside("gain, n " + v, x -> x.gain(0, 0, 0, 0, v));
                outside("cold in " + v, x -> x.cold(0, v));
                outside("mildest " + v, x -> x.mildest(v));
                outside("deed " + v, x -> x.deed(0, 0, v));
                break;
            case 1005: outside("stands " + v, x -> x.stands(0, v, 0)); break;
            case 1030:
                outside("lightFor " + v, x -> x.lightFor(0, 1, v));
                outside("keptOut " + v, x -> x.keptOut(0, 1, v));
                break;
            default: outside("claim " + v, x -> x.claim(0, 0, v)); break;
        }
    }

    @Says("NOT (not now, as told), FULL.")
    static void notNowAndFull() {
        FirstFelt x = busy();
        Check.due("light, it burns", x.light(0), Check.NOT);
        Check.due("light, no wood", x.light(1), Check.NOT);
        Check.due("lightFor, it burns", x.lightFor(0, 0, 1), Check.NOT);
        Check.due("lightFor, no wood", x.lightFor(0, 1, 1), Check.NOT);
        Check.due("keptOut, it burns", x.keptOut(0, 0, 1), Check.NOT);
        Check.due("keptOut, no wood", x.keptOut(0, 1, 1), Check.NOT);
        Check.due("wasLit, it burns", x.wasLit(0, -1), Check.NOT);
        Check.due("wasLit, no wood", x.wasLit(1, -1), Check.NOT);
        Check.due("go, off the town", x.go(0, 1), Check.NOT);
        Check.due("go, a wall", x.go(0, 2), Check.NOT);
        Check.due("goBack, not kept", x.goBack(1), Check.NOT);
        fillText(x);
        fillPapers(x);
        Check.due("feed", x.feed(' '), Check.FULL);
        Check.due("claim", x.claim(0, 0, 3), Check.FULL);
        Check.due("deed", x.deed(0, 0, 3), Check.FULL);
        Edges.put(x, "minutes", Check.NONE, 900001);
        Check.due("minute", x.minute(1), Check.FULL);
        Check.due("drift", x.drift(1), Check.FULL);
        Check.due("minute, no cells", new FirstFelt().minute(1), Check.NOT);
        Check.due("drift, no cells", new FirstFelt().drift(1), Check.NOT);
    }

    @Says("What is refused changes nothing.")
    static void refusedCallsChangeNothing() {
        Map<String, ToIntFunction<FirstFelt>> refused = new LinkedHashMap<>();
        refused.put("feed", x -> x.feed(256));
        refused.put("go off the town", x -> x.go(0, 1));
        refused.put("go through a wall", x -> x.go(0, 2));
        refused.put("go by no way", x -> x.go(1, 0));
        refused.put("build", x -> x.build(1, 0, 0, true));
        refused.put("build at no d", x -> x.build(0, 0, 2, false));
        refused.put("light a burning one", x -> x.light(0));
        refused.put("light without wood", x -> x.light(1));
        refused.put("stoke", x -> x.stoke(0, 100));
        refused.put("stoke with nothing", x -> x.stoke(0, 0));
        refused.put("law", x -> x.law(4));
        refused.put("last", x -> x.last(0));
        refused.put("last above", x -> x.last(21));
        refused.put("minute", x -> x.minute(61));
        refused.put("minute below", x -> x.minute(0));
        refused.put("drift", x -> x.drift(61));
        refused.put("then", x -> x.then(0, 0, 61, 0));
        refused.put("stands", x -> x.stands(0, 6, 0));
        refused.put("lightFor", x -> x.lightFor(0, 0, 5));
        refused.put("lightFor without wood", x -> x.lightFor(0, 1, 5));
        refused.put("keptOut", x -> x.keptOut(0, 0, 5));
        refused.put("keptOut without wood", x -> x.keptOut(0, 1, 5));
        refused.put("gain", x -> x.gain(0, 0, 0, 0, 61));
        refused.put("rents", x -> x.rents(3));
        refused.put("claim", x -> x.claim(0, 0, 60));
        refused.put("cold", x -> x.cold(3, 61));
        refused.put("mildest", x -> x.mildest(61));
        refused.put("deed", x -> x.deed(0, 0, 61));
        refused.put("wasLit", x -> x.wasLit(0, -1));
        refused.put("wasLit without wood", x -> x.wasLit(1, -1));
        refused.put("seed", x -> x.seed(-1));
        refused.put("goBack", x -> x.goBack(1));
        for (Map.Entry<String, ToIntFunction<FirstFelt>> call : refused.entrySet()) {
            refusedBy(call.getKey(), busy(), call.getValue());
        }
        // One object for each, so that none has more than 512 calls.
        FirstFelt longest = busy();
        fillText(longest);
        refusedBy("feed to a full text", longest, x -> x.feed(' '));
        FirstFelt full = busy();
        fillPapers(full);
        refusedBy("claim to full ones", full, x -> x.claim(1, 10, 0));
        refusedBy("deed to full ones", full, x -> x.deed(1, 10, 1));
        FirstFelt late = busy();
        Edges.put(late, "minutes", Check.NONE, 900001);
        refusedBy("minute, too late", late, x -> x.minute(1));
        refusedBy("drift, too late", late, x -> x.drift(1));
        Check.due("the image as it was", late.goBack(0), 1);
        Check.due("kept at minute 3", late.told(8), 3);
    }

    private static void refusedBy(String what, FirstFelt x, ToIntFunction<FirstFelt> call) {
        List<Integer> before = new ArrayList<>(Edges.look(x));
        int answer = call.applyAsInt(x);
        Check.due(what + " is refused with " + answer, answer < -1000000000 ? 1 : 0, 1);
        Edges.same(what, before, Edges.look(x));
    }

    @Says("A PAIR tells a CELL as 10 times X and Y.")
    static void pairsAreTenTimesXAndY() {
        FirstFelt x = Check.townOf("t6 3 0;o5 2 1 1;p5 1 0 1 0;");
        Check.due("stove", x.stove(0, 0), 52);
        Check.due("person", x.person(0, 0), 51);
        Check.due("go", x.go(0, 4), 41);
        Check.due("the last cell", x.claim(0, 52, 0), 1);
        Check.due("Y too large", x.claim(0, 53, 0), Check.UNKNOWN);
        Check.due("Y of nine", x.claim(0, 9, 0), Check.UNKNOWN);
        Check.due("X too large", x.claim(0, 60, 0), Check.UNKNOWN);
        Check.due("the other way round", x.claim(0, 25, 0), Check.UNKNOWN);
        Check.due("the last cell of a deed", x.deed(0, 52, 1), 1);
        Check.due("Y too large for a deed", x.deed(0, 53, 1), Check.UNKNOWN);
        Check.due("X too large for a deed", x.deed(0, 60, 1), Check.UNKNOWN);
        Check.due("below 0", x.deed(0, -1, 1), Check.UNKNOWN);
    }
}
