import java.io.IOException;
import java.lang.reflect.Field;
import java.lang.reflect.Method;
import java.lang.reflect.Modifier;
import java.net.URL;
import java.net.URLClassLoader;
import java.nio.file.Files;
import java.nio.file.Path;
import java.util.ArrayList;
import java.util.List;
import java.util.regex.Matcher;
import java.util.regex.Pattern;
import javax.tools.ToolProvider;

/** README.md's example compiles and answers what stands behind its lines; the page names every call and every constant. */
public final class ReadmeTest {
    private static final Pattern CALL = Pattern.compile("(x\\.\\w+\\(.*\\)); +// (-?\\d+|[A-Z]+): .*");

    private final List<String> calls = new ArrayList<>();
    private final List<Integer> dues = new ArrayList<>();

    public static void main(String[] args) throws IOException, ReflectiveOperationException {
        String page = Files.readString(Path.of("README.md"));
        ReadmeTest test = new ReadmeTest();
        test.compare(test.answersOf(test.programOf(blockOf(page, "```java\n"))));
        allIsNamed(page);
        Check.end("ReadmeTest");
    }

    static String blockOf(String page, String opening) {
        int begin = page.indexOf(opening);
        int end = begin < 0 ? -1 : page.indexOf("\n```", begin + opening.length());
        Check.due("there is a block of " + opening.trim(), end > begin ? 1 : 0, 1);
        return end > begin ? page.substring(begin + opening.length(), end) : "";
    }

    /** The example as it stands, but that the answers of its calls are kept. */
    private String programOf(String example) throws ReflectiveOperationException {
        StringBuilder program = new StringBuilder("public final class Example {\n"
                + "public static void run(java.util.List<Integer> answers) {\n");
        for (String line : example.split("\n")) {
            Matcher call = CALL.matcher(line);
            if (call.matches()) {
                calls.add(call.group(1));
                dues.add(numberOf(call.group(2)));
                program.append("answers.add(").append(call.group(1)).append(");\n");
            } else {
                Check.due("\"" + line + "\" tells no answer in a form that is not seen here", line.contains("//") ? 1 : 0, 0);
                program.append(line).append('\n');
            }
        }
        return program.append("}\n}\n").toString();
    }

    private static int numberOf(String answer) throws ReflectiveOperationException {
        return Character.isUpperCase(answer.charAt(0))
                ? FirstFelt.class.getField(answer).getInt(null) : Integer.parseInt(answer);
    }

    private List<Integer> answersOf(String program) throws IOException, ReflectiveOperationException {
        List<Integer> answers = new ArrayList<>();
        Path made = Files.createTempDirectory("readme");
        Path source = Files.writeString(made.resolve("Example.java"), program);
        int problems = ToolProvider.getSystemJavaCompiler().run(null, null, null, "-proc:none",
                "-cp", System.getProperty("java.class.path"), "-d", made.toString(), source.toString());
        Check.due("the example compiles, with problems", problems, 0);
        if (problems == 0) {
            try (URLClassLoader loader = new URLClassLoader(new URL[] {made.toUri().toURL()})) {
                loader.loadClass("Example").getMethod("run", List.class).invoke(null, answers);
            }
        }
        Files.deleteIfExists(made.resolve("Example.class"));
        Files.deleteIfExists(source);
        Files.deleteIfExists(made);
        return answers;
    }

    private void compare(List<Integer> answers) {
        Check.due("answers of the example, some", answers.isEmpty() ? 0 : 1, 1);
        Check.due("answers of the example", answers.size(), dues.size());
        for (int i = 0; i < Math.min(answers.size(), dues.size()); i++) {
            Check.due("README.md: " + calls.get(i), answers.get(i), dues.get(i));
        }
    }

    private static void allIsNamed(String page) {
        for (Method m : FirstFelt.class.getDeclaredMethods()) {
            if (Modifier.isPublic(m.getModifiers())) {
                int given = m.getParameterCount();
                String row = "\\| `" + m.getName() + "\\(" + (given == 0 ? "" : "\\w+" + ", \\w+".repeat(given - 1)) + "\\)` \\|";
                Check.due("README.md has a row for " + m.getName(), Pattern.compile(row).matcher(page).find() ? 1 : 0, 1);
            }
        }
        for (Field f : FirstFelt.class.getFields()) {
            Check.due("README.md names " + f.getName(), page.contains("`" + f.getName() + "`") ? 1 : 0, 1);
        }
    }
}
