import java.io.ByteArrayOutputStream;
import java.io.IOException;
import java.io.InputStream;
import java.io.OutputStream;
import java.lang.reflect.Method;
import java.net.URI;
import java.util.HashMap;
import java.util.List;
import java.util.Map;
import java.util.Set;
import javax.tools.FileObject;
import javax.tools.ForwardingJavaFileManager;
import javax.tools.JavaCompiler;
import javax.tools.JavaFileManager;
import javax.tools.JavaFileObject;
import javax.tools.SimpleJavaFileObject;
import javax.tools.StandardJavaFileManager;
import javax.tools.ToolProvider;

/** Programs with a fault put into them, compiled in memory, and the tests of boundaries run on them. */
final class Mutants {
    private final JavaCompiler compiler = ToolProvider.getSystemJavaCompiler();
    private final StandardJavaFileManager files = compiler.getStandardFileManager(null, null, null);

    /** The classes of that program; null if it does not compile. */
    Map<String, byte[]> compile(String source) {
        Map<String, ByteArrayOutputStream> made = new HashMap<>();
        JavaFileManager into = new ForwardingJavaFileManager<StandardJavaFileManager>(files) {
            @Override
            public JavaFileObject getJavaFileForOutput(Location where, String name, JavaFileObject.Kind kind, FileObject near) {
                return new SimpleJavaFileObject(URI.create("mem:///" + name + ".class"), kind) {
                    @Override
                    public OutputStream openOutputStream() {
                        ByteArrayOutputStream bytes = new ByteArrayOutputStream();
                        made.put(name, bytes);
                        return bytes;
                    }
                };
            }
        };
        JavaFileObject text = new SimpleJavaFileObject(URI.create("mem:///FirstFelt.java"), JavaFileObject.Kind.SOURCE) {
            @Override
            public CharSequence getCharContent(boolean ignore) {
                return source;
            }
        };
        List<String> options = List.of("-proc:none", "-nowarn");
        if (!compiler.getTask(null, into, problem -> { }, options, null, List.of(text)).call()) {
            return null;
        }
        Map<String, byte[]> classes = new HashMap<>();
        made.forEach((name, bytes) -> classes.put(name, bytes.toByteArray()));
        return classes;
    }

    /** Whether that test, run on that program, sees a wrong answer. */
    static boolean isSeen(Map<String, byte[]> program, String holder, String test) throws ReflectiveOperationException {
        Loader loader = new Loader(program);
        Class<?> check = loader.loadClass("Check");
        call(check, "beQuiet");
        Method run = loader.loadClass("Edges").getDeclaredMethod("run", Method.class);
        run.setAccessible(true);
        run.invoke(null, loader.loadClass(holder).getDeclaredMethod(test));
        return (int) call(check, "wrongOnes") > 0;
    }

    private static Object call(Class<?> of, String name) throws ReflectiveOperationException {
        Method m = of.getDeclaredMethod(name);
        m.setAccessible(true);
        return m.invoke(null);
    }

    /** Takes the program's classes from memory and makes the tests' classes anew, so that they meet that program. */
    private static final class Loader extends ClassLoader {
        private static final Set<String> SHARED = Set.of("Check", "Edges", "Says");
        private final Map<String, byte[]> program;

        Loader(Map<String, byte[]> program) {
            super(Mutants.class.getClassLoader());
            this.program = program;
        }

        @Override
        protected Class<?> loadClass(String name, boolean resolve) throws ClassNotFoundException {
            boolean own = program.containsKey(name) || SHARED.contains(name) || name.startsWith("EdgesOf");
            Class<?> known = findLoadedClass(name);
            if (!own || known != null) {
                return known != null ? known : super.loadClass(name, resolve);
            }
            byte[] bytes = program.containsKey(name) ? program.get(name) : bytesOf(name);
            return defineClass(name, bytes, 0, bytes.length);
        }

        private byte[] bytesOf(String name) throws ClassNotFoundException {
            try (InputStream in = getParent().getResourceAsStream(name + ".class")) {
                if (in == null) {
                    throw new ClassNotFoundException(name);
                }
                return in.readAllBytes();
            } catch (IOException e) {
                throw new ClassNotFoundException(name, e);
            }
        }
    }
}
