import java.io.IOException;
import java.lang.reflect.Method;
import java.nio.file.Files;
import java.nio.file.Path;
import java.util.ArrayList;
import java.util.HashMap;
import java.util.List;
import java.util.Map;
import java.util.regex.Matcher;
import java.util.regex.Pattern;

/** Each fault of src/test/mutants.txt is put into the program: the test named there must see it. */
public final class MutantTest {
    private record Mutant(String test, String line, String source) {
    }

    /** One for each thread, as making them takes longer than compiling. */
    private static final ThreadLocal<Mutants> COMPILERS = ThreadLocal.withInitial(Mutants::new);

    private final String program;
    private final Map<String, String> holders = new HashMap<>();
    private final List<Mutant> mutants = new ArrayList<>();

    private MutantTest(String program) {
        this.program = program;
        for (Class<?> holder : Edges.classes()) {
            for (Method test : Edges.testsOf(holder)) {
                Check.due("tests named " + test.getName(), holders.put(test.getName(), holder.getName()) == null ? 1 : 2, 1);
            }
        }
    }

    public static void main(String[] args) throws IOException {
        MutantTest all = new MutantTest(Files.readString(Path.of("src/main/java/FirstFelt.java")));
        all.read(Files.readAllLines(Path.of("src/test/mutants.txt")));
        List<String> wrong = all.mutants.parallelStream().map(all::trial).filter(how -> !how.isEmpty()).toList();
        wrong.forEach(Check::fail);
        Check.due("faults that no test saw, of " + all.mutants.size(), wrong.size(), 0);
        Check.end("MutantTest");
    }

    private void read(List<String> lines) {
        Map<String, Integer> counts = new HashMap<>();
        String test = "";
        for (String line : lines) {
            if (line.startsWith("  ")) {
                counts.merge(test, 1, Integer::sum);
                add(test, line.trim());
            } else if (!line.isBlank() && !line.startsWith("#")) {
                test = line.trim();
                Check.due("tests named " + test, holders.containsKey(test) ? 1 : 0, 1);
            }
        }
        for (String name : holders.keySet()) {
            Check.due("faults for " + name + ", some", counts.getOrDefault(name, 0) > 0 ? 1 : 0, 1);
        }
    }

    private void add(String test, String line) {
        int arrow = line.indexOf(" =>");
        String left = arrow < 0 ? "" : line.substring(0, arrow);
        int split = left.indexOf(" :: ");
        Matcher place = matcher(split < 0 ? left : left.substring(0, split));
        boolean once = arrow > 0 && place.find() && !matcher(place.pattern()).find(place.end());
        Matcher old = matcher(split < 0 ? left : left.substring(split + 4));
        if (!once || !old.find(place.start())) {
            Check.fail("\"" + line + "\" does not tell one place of the program");
            return;
        }
        String fault = line.substring(arrow + 3).trim();
        mutants.add(new Mutant(test, line, program.substring(0, old.start()) + fault + program.substring(old.end())));
    }

    private Matcher matcher(String text) {
        StringBuilder words = new StringBuilder();
        for (String word : text.split(" ")) {
            words.append(words.length() == 0 ? "" : "\\s+").append(Pattern.quote(word));
        }
        return matcher(Pattern.compile(words.toString()));
    }

    private Matcher matcher(Pattern pattern) {
        return pattern.matcher(program);
    }

    /** Empty if the test saw it. */
    private String trial(Mutant mutant) {
        Map<String, byte[]> classes = COMPILERS.get().compile(mutant.source());
        if (classes == null) {
            return "\"" + mutant.line() + "\" does not compile";
        }
        try {
            boolean seen = Mutants.isSeen(classes, holders.get(mutant.test()), mutant.test());
            return seen ? "" : mutant.test() + " does not see \"" + mutant.line() + "\"";
        } catch (ReflectiveOperationException e) {
            return mutant.test() + " cannot be run on \"" + mutant.line() + "\": " + e;
        }
    }
}
