import java.io.IOException;
import java.lang.reflect.Method;
import java.nio.file.Files;
import java.nio.file.Path;
import java.util.BitSet;
import java.util.regex.Matcher;
import java.util.regex.Pattern;

/** Each test of a boundary quotes DOC.md word for word, and each boundary of DOC.md is quoted by a test. */
public final class DocumentTest {
    /** How DOC.md tells boundaries: bounds, mosts and leasts, refusals, what is at first, again, empty. */
    private static final Pattern MARKS = Pattern.compile("\\d \\.\\. |\\bat most\\b|\\bor more\\b|\\bno more than\\b|\\babove\\b|\\bbelow\\b"
            + "|\\bUNKNOWN\\b|\\bOUTSIDE\\b|\\bNOT\\b|\\bFULL\\b|\\bNONE\\b|\\bat first\\b|\\bonce\\b|\\bagain\\b|\\bempty\\b"
            + "|\\bthe least\\b|\\bthe first\\b|\\bleft over\\b|\\bcut\\b|\\bno CELLS?\\b|\\bNo CELLS\\b|\\bfor ever\\b|\\bstays\\b");

    public static void main(String[] args) throws IOException {
        String doc = oneLine(Files.readString(Path.of("../shared/DOC.md")));
        BitSet quoted = new BitSet(doc.length());
        for (Class<?> holder : Edges.classes()) {
            for (Method test : Edges.testsOf(holder)) {
                quote(doc, oneLine(test.getAnnotation(Says.class).value()), test.getName(), quoted);
            }
        }
        boundariesAreQuoted(doc, quoted);
        Check.end("DocumentTest");
    }

    private static String oneLine(String text) {
        return text.replaceAll("\\s+", " ");
    }

    private static void quote(String doc, String sentence, String name, BitSet quoted) {
        int at = doc.indexOf(sentence);
        Check.due(name + " quotes \"" + sentence + "\", found", at >= 0 ? 1 : 0, 1);
        if (at >= 0) {
            Check.due(name + " quotes \"" + sentence + "\", once more", doc.indexOf(sentence, at + 1), -1);
            quoted.set(at, at + sentence.length());
        }
    }

    private static void boundariesAreQuoted(String doc, BitSet quoted) {
        int begin = doc.indexOf("## Terms");
        int end = doc.indexOf("## Not promised");
        Check.due("DOC.md has its parts", begin >= 0 && end > begin ? 1 : 0, 1);
        Matcher marks = MARKS.matcher(doc);
        for (int at = Math.max(0, begin); marks.find(at) && marks.start() < end; at = marks.end()) {
            String around = doc.substring(Math.max(0, marks.start() - 40), Math.min(doc.length(), marks.end() + 40));
            Check.due("a test quotes \"" + marks.group() + "\" in \".." + around + "..\"", quoted.get(marks.start()) ? 1 : 0, 1);
        }
    }
}
