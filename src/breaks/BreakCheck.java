import java.io.ByteArrayOutputStream;
import java.io.IOException;
import java.io.OutputStream;
import java.io.PrintStream;
import java.lang.reflect.Method;
import java.net.URI;
import java.nio.file.Files;
import java.nio.file.Path;
import java.util.ArrayList;
import java.util.HashMap;
import java.util.List;
import java.util.Map;
import java.util.TreeSet;
import java.util.regex.Matcher;
import java.util.regex.Pattern;
import javax.tools.FileObject;
import javax.tools.ForwardingJavaFileManager;
import javax.tools.JavaCompiler;
import javax.tools.JavaFileManager;
import javax.tools.JavaFileObject;
import javax.tools.SimpleJavaFileObject;
import javax.tools.ToolProvider;

/**
 * Breaks the class in each way that breaks.txt tells, one after the other, and looks that the
 * tests named there fail then. Its argument is the directory of the compiled tests.
 */
public final class BreakCheck {
    private static final Path SOURCE = Path.of("src/main/java/AssignmentWorkbench.java");
    private static final Path BREAKS = Path.of("src/breaks/breaks.txt");
    private static final Path LIST = Path.of("EDGES.md");
    private static final String FACE = "AssignmentWorkbench";
    private static final long MOST_MILLIS = 60000;

    /** One break: the tests that have to fail, the words in the source, and those instead. */
    private record Break(List<String> tests, String before, String after) {
    }

    /** A source or a class that stands in memory alone. */
    private static final class InMemory extends SimpleJavaFileObject {
        private final String text;
        private final ByteArrayOutputStream bytes = new ByteArrayOutputStream();

        InMemory(String name, Kind kind, String text) {
            super(URI.create("memory:///" + name + kind.extension), kind);
            this.text = text;
        }

        @Override
        public CharSequence getCharContent(boolean ignoreErrors) {
            return text;
        }

        @Override
        public OutputStream openOutputStream() {
            return bytes;
        }
    }

    /** Holds the class files of a broken source, by name. */
    private static final class Classes extends ForwardingJavaFileManager<JavaFileManager> {
        private final Map<String, InMemory> files = new HashMap<>();

        Classes(JavaFileManager manager) {
            super(manager);
        }

        @Override
        public JavaFileObject getJavaFileForOutput(Location location, String name,
                JavaFileObject.Kind kind, FileObject sibling) {
            InMemory file = new InMemory(name, kind, "");
            files.put(name, file);
            return file;
        }
    }

    /** Loads the broken class, and the tests anew round it. */
    private static final class Loader extends ClassLoader {
        private final Map<String, InMemory> broken;
        private final Path tests;

        Loader(Map<String, InMemory> broken, Path tests) {
            super(ClassLoader.getPlatformClassLoader());
            this.broken = broken;
            this.tests = tests;
        }

        @Override
        protected Class<?> findClass(String name) throws ClassNotFoundException {
            byte[] code;
            try {
                code = broken.containsKey(name) ? broken.get(name).bytes.toByteArray()
                        : Files.readAllBytes(tests.resolve(name + ".class"));
            } catch (IOException e) {
                throw new ClassNotFoundException(name, e);
            }
            return defineClass(name, code, 0, code.length);
        }
    }

    private static List<Break> breaks() throws IOException {
        List<Break> breaks = new ArrayList<>();
        List<String> tests = new ArrayList<>();
        String before = "";
        for (String line : Files.readAllLines(BREAKS)) {
            String rest = line.length() > 2 ? line.substring(2) : "";
            if (line.startsWith("= ")) {
                tests = List.of(rest.split(", "));
            } else if (line.startsWith("- ")) {
                before = rest;
            } else if (line.startsWith("+")) {
                breaks.add(new Break(tests, before, rest));
            }
        }
        return breaks;
    }

    /** The words of a break, with any blanks and line ends between them. */
    private static Pattern words(String text) {
        List<String> words = new ArrayList<>();
        for (String word : text.trim().split("\\s+")) {
            words.add(Pattern.quote(word));
        }
        return Pattern.compile(String.join("\\s+", words));
    }

    private static String broken(String source, Break one) {
        Matcher matcher = words(one.before()).matcher(source);
        if (!matcher.find()) {
            return null;
        }
        String text = source.substring(0, matcher.start()) + one.after()
                + source.substring(matcher.end());
        return matcher.find() ? null : text;
    }

    private static Map<String, InMemory> compiled(String text) throws IOException {
        JavaCompiler compiler = ToolProvider.getSystemJavaCompiler();
        try (Classes classes = new Classes(compiler.getStandardFileManager(null, null, null))) {
            InMemory source = new InMemory(FACE, JavaFileObject.Kind.SOURCE, text);
            boolean fine = compiler.getTask(null, classes, diagnostic -> { }, List.of("-nowarn"),
                    null, List.of(source)).call();
            return fine ? classes.files : null;
        }
    }

    /** Whether the test fails: an answer is wrong, or it ends by an exception, or never. */
    private static boolean fails(Map<String, InMemory> classes, Path tests, String test)
            throws InterruptedException {
        boolean[] failed = {true};
        Thread thread = new Thread(() -> {
            try {
                Loader loader = new Loader(classes, tests);
                int dot = test.indexOf('.');
                Method method = loader.loadClass(test.substring(0, dot))
                        .getDeclaredMethod(test.substring(dot + 1));
                method.setAccessible(true);
                method.invoke(null);
                Method wrong = loader.loadClass("Check").getDeclaredMethod("wrongUpToNow");
                wrong.setAccessible(true);
                failed[0] = (int) wrong.invoke(null) > 0;
            } catch (ReflectiveOperationException e) {
                failed[0] = !(e instanceof NoSuchMethodException
                        || e instanceof ClassNotFoundException);
            }
        });
        thread.setDaemon(true);
        thread.start();
        thread.join(MOST_MILLIS);
        return failed[0];
    }

    private static TreeSet<String> listed() throws IOException {
        TreeSet<String> tests = new TreeSet<>();
        Matcher matcher = Pattern.compile("`(\\w+Edges\\.\\w+)`").matcher(Files.readString(LIST));
        while (matcher.find()) {
            tests.add(matcher.group(1));
        }
        return tests;
    }

    public static void main(String[] args) throws IOException, InterruptedException {
        Path tests = Path.of(args[0]);
        String source = Files.readString(SOURCE);
        PrintStream out = System.out;
        System.setOut(new PrintStream(OutputStream.nullOutputStream()));
        TreeSet<String> without = listed();
        int bad = 0;
        int count = 0;
        for (Break one : breaks()) {
            String text = broken(source, one);
            Map<String, InMemory> classes = text == null ? null : compiled(text);
            if (classes == null) {
                bad++;
                out.println((text == null ? "not once in the class: " : "is no Java: ")
                        + one.before() + " => " + one.after());
                continue;
            }
            for (String test : one.tests()) {
                count++;
                without.remove(test);
                if (!fails(classes, tests, test)) {
                    bad++;
                    out.println(test + " does not fail: " + one.before() + " => " + one.after());
                }
            }
        }
        for (String test : without) {
            bad++;
            out.println(test + " has no break");
        }
        out.println(count + " breaks, " + bad + " of them wrong");
        System.exit(bad == 0 ? 0 : 1);
    }
}
