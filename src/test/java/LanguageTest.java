import java.lang.management.ManagementFactory;
import java.lang.reflect.Field;
import java.lang.reflect.Method;
import java.lang.reflect.Modifier;
import java.nio.file.Files;
import java.nio.file.Path;
import java.util.HashSet;
import java.util.Random;
import java.util.Set;
import java.util.TreeSet;
import java.util.regex.Matcher;
import java.util.regex.Pattern;

/** The rules of LANGUAGE.md that can be seen, no call throws, and what calls make. */
public final class LanguageTest {
    private static final int[] ODD = {Integer.MIN_VALUE, Integer.MIN_VALUE + 1, -1000000001, -2, -1, 0, 1, 2, 3, 4, 5, 6, 7,
        8, 9, 10, 11, 12, 20, 21, 30, 31, 59, 60, 61, 99, 100, 255, 256, 65536, Integer.MAX_VALUE - 1, Integer.MAX_VALUE};

    public static void main(String[] args) throws Exception {
        face();
        inside();
        source(Files.readString(Path.of("src/main/java/FirstFelt.java")));
        noCallThrows();
        callsMakeNothing();
        Check.end("LanguageTest");
    }

    private static void face() {
        Set<String> seen = new TreeSet<>();
        Set<String> hidden = new HashSet<>();
        for (Method m : FirstFelt.class.getDeclaredMethods()) {
            if (Modifier.isPrivate(m.getModifiers())) {
                hidden.add(m.getName());
            } else {
                Check.due("face: " + m, Modifier.isPublic(m.getModifiers()) && m.getReturnType() == int.class ? 1 : 0, 1);
                seen.add(m.getName());
            }
        }
        Set<String> open = new TreeSet<>();
        for (Field f : FirstFelt.class.getDeclaredFields()) {
            if (!Modifier.isPrivate(f.getModifiers())) {
                open.add(f.getName());
            }
        }
        Check.due("face: constants " + open, open.equals(Set.of("NONE", "UNKNOWN", "OUTSIDE", "NOT", "FULL")) ? 1 : 0, 1);
        Check.due("face: final", Modifier.isFinal(FirstFelt.class.getModifiers()) ? 1 : 0, 1);
        for (Class<?> c : FirstFelt.class.getDeclaredClasses()) {
            for (Method m : c.getDeclaredMethods()) {
                hidden.add(m.getName());
            }
        }
        for (String name : seen) {
            Check.due("face: hidden " + name, hidden.contains(name) ? 1 : 0, 0);
        }
    }

    private static void inside() {
        Class<?>[] classes = FirstFelt.class.getDeclaredClasses();
        Check.due("classes", classes.length < 12 ? 1 : 0, 1);
        for (Class<?> c : classes) {
            Check.due("static: " + c, Modifier.isStatic(c.getModifiers()) ? 1 : 0, 1);
            int fields = 0;
            for (Field f : c.getDeclaredFields()) {
                fields += Modifier.isStatic(f.getModifiers()) ? 0 : 1;
            }
            Check.due("fields of " + c, fields <= 20 ? 1 : 0, 1);
            for (Method m : c.getDeclaredMethods()) {
                Check.due("parameters of " + m, m.getParameterCount() <= 7 ? 1 : 0, 1);
            }
        }
    }

    private static void source(String text) {
        String bare = text.replaceAll("(?s)/\\*.*?\\*/", "").replaceAll("//[^\n]*", "");
        String[] words = {"throw", "throws", "try", "catch", "synchronized", "assert", "Exact", "String", "protected",
            "float", "double", "Object", "System\\.out", "Random", "Thread", "package", "equals", "hashCode", "toString"};
        for (String word : words) {
            Check.due("word " + word, Pattern.compile("\\b" + word + "\\b").matcher(bare).find() ? 1 : 0, 0);
        }
        Check.due("lambda", bare.contains("->") || bare.contains("::") || bare.contains("@") ? 1 : 0, 0);
        Check.due("static block", Pattern.compile("\\bstatic\\s*\\{").matcher(bare).find() ? 1 : 0, 0);
        Matcher imports = Pattern.compile("import [^;]*;").matcher(bare);
        while (imports.find()) {
            Check.due(imports.group(), imports.group().equals("import java.util.Arrays;") ? 1 : 0, 1);
        }
        // What the program uses; LANGUAGE.md allows some more, which may be added here.
        Set<String> library = Set.of("Math.max", "Math.min", "Integer.bitCount", "System.arraycopy", "Arrays.fill");
        Matcher uses = Pattern.compile("\\b(?:java\\.[\\w.]+|Math|Integer|Long|System|Arrays|List)\\.\\w+(?!\\w*;)").matcher(bare);
        while (uses.find()) {
            Check.due("library: " + uses.group(), library.contains(uses.group()) ? 1 : 0, 1);
        }
        lengths(text);
    }

    /** Methods stand at one indent or two, and end with a brace at the same one. */
    private static void lengths(String text) {
        String[] lines = text.split("\n");
        for (int i = 0; i < lines.length; i++) {
            Matcher head = Pattern.compile("^( {4}| {8})(public|private) [^=;]*\\) \\{$").matcher(lines[i]);
            if (head.find()) {
                int end = i;
                while (!lines[end].equals(head.group(1) + "}")) {
                    end++;
                }
                Check.due("length of " + lines[i].trim(), end - i < 60 ? 1 : 0, 1);
            }
        }
    }

    private static void noCallThrows() throws Exception {
        Random random = new Random(33);
        Method[] methods = FirstFelt.class.getMethods();
        for (int run = 0; run < 400; run++) {
            FirstFelt x = run % 4 == 0 ? new FirstFelt() : Check.townOf(run % 4 == 1 ? "t1 1 0;o0 0 1 1;p0 0 0 1 0;"
                    : "t4 5 120;w0 0 0;o0 0 60 9;o3 4 60 99;s30,0;p0 0 0 1 9;p0 0 0 2 0;p3 4 300 60 0;");
            for (int call = 0; call < 500; call++) {
                Method m = methods[random.nextInt(methods.length)];
                if (m.getDeclaringClass() == FirstFelt.class && !(m.getName().equals("town") && random.nextInt(9) != 0)) {
                    callOddly(x, m, random);
                }
            }
        }
    }

    private static void callOddly(FirstFelt x, Method m, Random random) throws Exception {
        Object[] given = new Object[m.getParameterCount()];
        for (int i = 0; i < given.length; i++) {
            int v = random.nextInt(3) == 0 ? ODD[random.nextInt(ODD.length)] : random.nextInt(6);
            if (m.getParameterTypes()[i] == boolean.class) {
                given[i] = v % 2 == 0;
            } else {
                given[i] = v;
            }
        }
        try {
            m.invoke(x, given);
        } catch (java.lang.reflect.InvocationTargetException e) {
            Check.due(m + " threw " + e.getCause(), 1, 0);
        }
    }

    /** All rows are made by the constructor: the room of a run must hold for all of its calls. */
    private static void callsMakeNothing() {
        if (!(ManagementFactory.getThreadMXBean() instanceof com.sun.management.ThreadMXBean bean)) {
            return;
        }
        long own = Thread.currentThread().getId();
        FirstFelt x = Check.townOf("t4 5 120;w0 0 0;o0 0 60 9;o3 4 60 99;s30,0;p0 0 0 1 9;p0 0 0 2 0;p3 4 300 60 0;");
        allTries(x);
        long before = bean.getThreadAllocatedBytes(own);
        for (int i = 0; i < 20; i++) {
            allTries(x);
        }
        Check.due("20 times all calls made little", bean.getThreadAllocatedBytes(own) - before < 20000 ? 1 : 0, 1);
    }

    private static void allTries(FirstFelt x) {
        x.keep(0);
        x.claim(0, 0, 59);
        x.deed(0, 0, 60);
        x.minute(5);
        x.drift(5);
        x.then(0, 0, 60, 0);
        x.stands(0, 5, 0);
        x.stoke(1, 9);
        x.lightFor(0, 1, 30);
        x.keptOut(0, 1, 30);
        x.gain(0, 0, 0, 0, 60);
        x.rents(0);
        x.forged();
        x.mildest(60);
        x.wasLit(1, -1);
        x.goBack(0);
        x.feed('t');
        x.town();
    }
}
