import java.io.IOException;
import java.lang.reflect.Executable;
import java.lang.reflect.Method;
import java.lang.reflect.Modifier;
import java.nio.file.Files;
import java.nio.file.Path;
import java.util.Arrays;
import java.util.BitSet;
import java.util.Set;
import java.util.TreeSet;
import java.util.regex.Matcher;
import java.util.regex.Pattern;
import java.util.stream.Collectors;

/** Each test of a boundary quotes DOC.md word for word, each boundary of DOC.md is quoted by a test, its face is the class's. */
public final class DocumentTest {
    /** How DOC.md tells boundaries: bounds, mosts and leasts, refusals, what is at first, again, empty. */
    private static final Pattern MARKS = Pattern.compile("\\d \\.\\. |\\bat most\\b|\\bor more\\b|\\bno more than\\b|\\babove\\b|\\bbelow\\b"
            + "|\\bUNKNOWN\\b|\\bOUTSIDE\\b|\\bNOT\\b|\\bFULL\\b|\\bNONE\\b|\\bat first\\b|\\bonce\\b|\\bagain\\b|\\bempty\\b"
            + "|\\bthe least\\b|\\bthe first\\b|\\bleft over\\b|\\bcut\\b|\\bno CELLS?\\b|\\bNo CELLS\\b|\\bfor ever\\b|\\bstays\\b");

    public static void main(String[] args) throws IOException {
        String page = Files.readString(Path.of("../shared/DOC.md"));
        faceIsAsShown(ReadmeTest.blockOf(page, "```java\n"));
        String doc = oneLine(page);
        BitSet quoted = new BitSet(doc.length());
        for (Class<?> holder : Edges.classes()) {
            for (Method test : Edges.testsOf(holder)) {
                quote(doc, oneLine(test.getAnnotation(Says.class).value()), test.getName(), quoted);
            }
        }
        boundariesAreQuoted(doc, quoted);
        Check.end("DocumentTest");
    }

    private static void faceIsAsShown(String shown) {
        Set<String> due = new TreeSet<>();
        Matcher heads = Pattern.compile("public (?:int (\\w+)|FirstFelt)\\(([^)]*)\\);").matcher(shown);
        while (heads.find()) {
            due.add((heads.group(1) == null ? "FirstFelt" : heads.group(1)) + "(" + heads.group(2).replaceAll(" ?(\\w+) \\w+", "$1") + ")");
        }
        Set<String> is = new TreeSet<>();
        for (Executable one : FirstFelt.class.getConstructors()) {
            is.add("FirstFelt(" + typesOf(one) + ")");
        }
        for (Method one : FirstFelt.class.getDeclaredMethods()) {
            if (Modifier.isPublic(one.getModifiers())) {
                is.add(one.getName() + "(" + typesOf(one) + ")");
            }
        }
        Check.due("calls that DOC.md shows", due.size(), 33);
        Check.due("the face is " + is + ", as DOC.md shows " + due, is.equals(due) ? 1 : 0, 1);
    }

    private static String typesOf(Executable one) {
        return Arrays.stream(one.getParameterTypes()).map(Class::getName).collect(Collectors.joining(","));
    }

    private static String oneLine(String text) {
        return text.replaceAll("\\s+", " ");
    }

    private static void quote(String doc, String sentence, String name, BitSet quoted) {
        int at = doc.indexOf(sentence);
        Check.due(name + " quotes \"" + sentence + "\", found", at >= 0 ? 1 : 0, 1);
        if (at >= 0) {
            Check.due(name + " quotes \"" + sentence + "\", once more", doc.indexOf(sentence, at + 1), -1);
            quoted.set(at, at + sentence.length());
        }
    }

    private static void boundariesAreQuoted(String doc, BitSet quoted) {
        int begin = doc.indexOf("## Terms");
        int end = doc.indexOf("## Not promised");
        Check.due("DOC.md has its parts", begin >= 0 && end > begin ? 1 : 0, 1);
        Matcher marks = MARKS.matcher(doc);
        for (int at = Math.max(0, begin); marks.find(at) && marks.start() < end; at = marks.end()) {
            String around = doc.substring(Math.max(0, marks.start() - 40), Math.min(doc.length(), marks.end() + 40));
            Check.due("a test quotes \"" + marks.group() + "\" in \".." + around + "..\"", quoted.get(marks.start()) ? 1 : 0, 1);
        }
    }
}
