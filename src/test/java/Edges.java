import java.lang.reflect.Array;
import java.lang.reflect.Field;
import java.lang.reflect.InvocationTargetException;
import java.lang.reflect.Method;
import java.util.ArrayList;
import java.util.Comparator;
import java.util.List;

/** What the tests of boundaries share: each is a method that Says which sentence of DOC.md it looks at. */
final class Edges {
    private Edges() {
    }

    /** All classes that hold such tests. */
    static List<Class<?>> classes() {
        return List.of(EdgesOfTermsTest.class, EdgesOfTextTest.class, EdgesOfTownTest.class, EdgesOfMinutesTest.class,
                EdgesOfDoneTest.class, EdgesOfTriedTest.class, EdgesOfImagesTest.class);
    }

    static List<Method> testsOf(Class<?> holder) {
        List<Method> tests = new ArrayList<>();
        for (Method m : holder.getDeclaredMethods()) {
            if (m.isAnnotationPresent(Says.class)) {
                tests.add(m);
            }
        }
        tests.sort(Comparator.comparing(Method::getName));
        return tests;
    }

    static void runAll(Class<?> holder) {
        for (Method test : testsOf(holder)) {
            run(test);
        }
        Check.end(holder.getName());
    }

    static void run(Method test) {
        Check.head(test.getName() + " [" + test.getAnnotation(Says.class).value() + "]: ");
        try {
            test.setAccessible(true);
            test.invoke(null);
        } catch (InvocationTargetException e) {
            Check.fail("a call threw " + e.getCause());
        } catch (IllegalAccessException e) {
            Check.fail("the test cannot be run: " + e);
        }
    }

    /** Whatever can be asked of a town and of what comes next in it; some 15 calls, 17 a CELL, 4 a STOVE, 8 a PERSON. */
    static List<Integer> look(FirstFelt x) {
        List<Integer> seen = new ArrayList<>();
        for (int what = 0; what <= 14; what++) {
            seen.add(x.told(what));
        }
        seen.add(x.fault());
        int w = x.told(0);
        int h = x.told(1);
        for (int c = 0; c < w * h; c++) {
            for (int what = 0; what <= 3; what++) {
                seen.add(x.cell(c % w, c / w, what));
            }
            seen.add(x.wall(c % w, c / w, 0));
            seen.add(x.wall(c % w, c / w, 1));
            seen.add(x.then(c % w, c / w, 7, 0));
            seen.add(x.then(c % w, c / w, 7, 1));
        }
        for (int k = 0; k < x.told(3); k++) {
            for (int what = 0; what <= 3; what++) {
                seen.add(x.stove(k, what));
            }
        }
        for (int p = 0; p < x.told(6); p++) {
            for (int what = 0; what <= 7; what++) {
                seen.add(x.person(p, what));
            }
        }
        seen.add(x.forged());
        int seed = x.seed(0);
        x.seed(seed);
        seen.add(seed);
        return seen;
    }

    static void same(String what, List<Integer> before, List<Integer> behind) {
        Check.due(what + ": " + before + " became " + behind + ", the same", before.equals(behind) ? 1 : 0, 1);
    }

    /** For what no 512 calls can reach: a number of what is so, put there from outside; i is NONE if it is not in a row. */
    static void put(FirstFelt x, String name, int i, int value) {
        try {
            Field now = FirstFelt.class.getDeclaredField("now");
            now.setAccessible(true);
            Object state = now.get(x);
            Field field = state.getClass().getDeclaredField(name);
            field.setAccessible(true);
            if (i == Check.NONE) {
                field.setInt(state, value);
            } else {
                Array.setInt(field.get(state), i, value);
            }
        } catch (ReflectiveOperationException e) {
            Check.fail("the program has no " + name + " inside: " + e);
        }
    }
}
