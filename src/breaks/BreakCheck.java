import java.io.ByteArrayOutputStream;
import java.io.IOException;
import java.io.OutputStream;
import java.io.PrintStream;
import java.lang.reflect.Method;
import java.net.URI;
import java.nio.file.Files;
import java.nio.file.Path;
import java.util.ArrayList;
import java.util.HashMap;
import java.util.List;
import java.util.Map;
import java.util.TreeSet;
import java.util.regex.Matcher;
import java.util.regex.Pattern;
import javax.tools.FileObject;
import javax.tools.ForwardingJavaFileManager;
import javax.tools.JavaCompiler;
import javax.tools.JavaFileManager;
import javax.tools.JavaFileObject;
import javax.tools.SimpleJavaFileObject;
import javax.tools.ToolProvider;

/**
 * Breaks the class in each way that breaks.txt tells, one after the other, and looks that the
 * tests named there fail then; and that no test needs what the document leaves free, the answers
 * of an object after its 512th call. Its argument is the directory of the compiled tests.
 */
public final class BreakCheck {
    private static final Path SOURCE = Path.of("src/main/java/AssignmentWorkbench.java");
    private static final Path BREAKS = Path.of("src/breaks/breaks.txt");
    private static final Path LIST = Path.of("EDGES.md");
    private static final Path PROMISES = Path.of("src/test/java/PromiseTest.java");
    private static final String FACE = "AssignmentWorkbench";
    private static final long MOST_MILLIS = 60000;

    /** One break: the tests that have to fail, the words in the source, and those instead. */
    private record Break(List<String> tests, String before, String after) {
    }

    /** A source or a class that stands in memory alone. */
    private static final class InMemory extends SimpleJavaFileObject {
        private final String text;
        private final ByteArrayOutputStream bytes = new ByteArrayOutputStream();

        InMemory(String name, Kind kind, String text) {
            super(URI.create("memory:///" + name + kind.extension), kind);
            this.text = text;
        }

        @Override
        public CharSequence getCharContent(boolean ignoreErrors) {
            return text;
        }

        @Override
        public OutputStream openOutputStream() {
            return bytes;
        }
    }

    /** Holds the class files of a broken source, by name. */
    private static final class Classes extends ForwardingJavaFileManager<JavaFileManager> {
        private final Map<String, InMemory> files = new HashMap<>();

        Classes(JavaFileManager manager) {
            super(manager);
        }

        @Override
        public JavaFileObject getJavaFileForOutput(Location location, String name,
                JavaFileObject.Kind kind, FileObject sibling) {
            InMemory file = new InMemory(name, kind, "");
            files.put(name, file);
            return file;
        }
    }

    /** Loads the broken class, and the tests anew round it. */
    private static final class Loader extends ClassLoader {
        private final Map<String, InMemory> broken;
        private final Path tests;

        Loader(Map<String, InMemory> broken, Path tests) {
            super(ClassLoader.getPlatformClassLoader());
            this.broken = broken;
            this.tests = tests;
        }

        @Override
        protected Class<?> findClass(String name) throws ClassNotFoundException {
            byte[] code;
            try {
                code = broken.containsKey(name) ? broken.get(name).bytes.toByteArray()
                        : Files.readAllBytes(tests.resolve(name + ".class"));
            } catch (IOException e) {
                throw new ClassNotFoundException(name, e);
            }
            return defineClass(name, code, 0, code.length);
        }
    }

    private static List<Break> breaks() throws IOException {
        List<Break> breaks = new ArrayList<>();
        List<String> tests = new ArrayList<>();
        String before = "";
        for (String line : Files.readAllLines(BREAKS)) {
            String rest = line.length() > 2 ? line.substring(2) : "";
            if (line.startsWith("= ")) {
                tests = List.of(rest.split(", "));
            } else if (line.startsWith("- ")) {
                before = rest;
            } else if (line.startsWith("+")) {
                breaks.add(new Break(tests, before, rest));
            }
        }
        return breaks;
    }

    /** The words of a break, with any blanks and line ends between them. */
    private static Pattern words(String text) {
        List<String> words = new ArrayList<>();
        for (String word : text.trim().split("\\s+")) {
            words.add(Pattern.quote(word));
        }
        return Pattern.compile(String.join("\\s+", words));
    }

    private static String broken(String source, Break one) {
        Matcher matcher = words(one.before()).matcher(source);
        if (!matcher.find()) {
            return null;
        }
        String text = source.substring(0, matcher.start()) + one.after()
                + source.substring(matcher.end());
        return matcher.find() ? null : text;
    }

    private static Map<String, InMemory> compiled(String text) throws IOException {
        JavaCompiler compiler = ToolProvider.getSystemJavaCompiler();
        try (Classes classes = new Classes(compiler.getStandardFileManager(null, null, null))) {
            InMemory source = new InMemory(FACE, JavaFileObject.Kind.SOURCE, text);
            boolean fine = compiler.getTask(null, classes, diagnostic -> { }, List.of("-nowarn"),
                    null, List.of(source)).call();
            return fine ? classes.files : null;
        }
    }

    /** How a test ends; it fails if an answer is wrong, by an exception, or if it never ends. */
    private enum End { HOLDS, FAILS, IS_MISSING }

    private static End run(Loader loader, String test) {
        int dot = test.indexOf('.');
        try {
            Method method = loader.loadClass(test.substring(0, dot))
                    .getDeclaredMethod(test.substring(dot + 1));
            Method wrong = loader.loadClass("Check").getDeclaredMethod("wrongUpToNow");
            method.setAccessible(true);
            wrong.setAccessible(true);
            method.invoke(null);
            return (int) wrong.invoke(null) > 0 ? End.FAILS : End.HOLDS;
        } catch (NoSuchMethodException | ClassNotFoundException e) {
            return End.IS_MISSING;
        } catch (ReflectiveOperationException e) {
            return End.FAILS;
        }
    }

    private static End endOf(Map<String, InMemory> classes, Path tests, String test)
            throws InterruptedException {
        End[] end = {End.FAILS};
        Thread thread = new Thread(() -> end[0] = run(new Loader(classes, tests), test));
        thread.setDaemon(true);
        thread.start();
        thread.join(MOST_MILLIS);
        return end[0];
    }

    private static TreeSet<String> names(Path file, String pattern) throws IOException {
        TreeSet<String> names = new TreeSet<>();
        Matcher matcher = Pattern.compile(pattern).matcher(Files.readString(file));
        while (matcher.find()) {
            names.add(matcher.group(1));
        }
        return names;
    }

    private static TreeSet<String> listed() throws IOException {
        return names(LIST, "`(\\w+Edges\\.\\w+)`");
    }

    /** The source, but that the 513th call of an object ends by an error. */
    private static String upTo512Calls(String source) {
        String counted = source.replaceAll("(?m)^ {4}public (int|long) \\w+\\([^{;]*\\{", "$0 countCall();");
        return counted.replaceFirst("private final State now", "private int callCount; "
                + "private void countCall() { callCount++; "
                + "if (callCount > 512) { throw new Error(); } } $0");
    }

    private static int testsOfMoreCalls(String source, Path tests, PrintStream out)
            throws IOException, InterruptedException {
        TreeSet<String> all = listed();
        for (String promise : names(PROMISES, "static void (promise\\w+)\\(\\)")) {
            all.add("PromiseTest." + promise);
        }
        Map<String, InMemory> classes = compiled(upTo512Calls(source));
        int bad = 0;
        for (String test : all) {
            End end = endOf(classes, tests, test);
            if (end != End.HOLDS) {
                bad++;
                out.println(test + " " + end + " with 512 calls of an object");
            }
        }
        out.println(all.size() + " tests, " + bad + " of them do not hold with 512 calls");
        return bad;
    }

    public static void main(String[] args) throws IOException, InterruptedException {
        Path tests = Path.of(args[0]);
        String source = Files.readString(SOURCE);
        PrintStream out = System.out;
        System.setOut(new PrintStream(OutputStream.nullOutputStream()));
        int bad = testsOfMoreCalls(source, tests, out);
        TreeSet<String> without = listed();
        int count = 0;
        for (Break one : breaks()) {
            String text = broken(source, one);
            Map<String, InMemory> classes = text == null ? null : compiled(text);
            if (classes == null) {
                bad++;
                out.println((text == null ? "not once in the class: " : "is no Java: ")
                        + one.before() + " => " + one.after());
                continue;
            }
            for (String test : one.tests()) {
                count++;
                without.remove(test);
                End end = endOf(classes, tests, test);
                if (end != End.FAILS) {
                    bad++;
                    out.println(test + " " + end + " with " + one.before() + " => " + one.after());
                }
            }
        }
        for (String test : without) {
            bad++;
            out.println(test + " has no break");
        }
        out.println(count + " breaks, " + bad + " faults");
        System.exit(bad == 0 ? 0 : 1);
    }
}
