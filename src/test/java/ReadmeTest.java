import java.io.IOException;
import java.lang.reflect.Method;
import java.lang.reflect.Modifier;
import java.nio.file.Files;
import java.nio.file.Path;
import java.util.List;
import java.util.regex.Matcher;
import java.util.regex.Pattern;
import javax.tools.JavaCompiler;
import javax.tools.StandardJavaFileManager;
import javax.tools.ToolProvider;

/**
 * The calls in README.md, compiled and made: each has to answer what is said behind it first, a
 * number or "throws" and the exception. README.md has to name every method of the class, too.
 */
public final class ReadmeTest {
    private static final Path README = Path.of("README.md");
    // Beside the tests' own classes, so that they and the calls see each other.
    private static final Path PLACE = Path.of(System.getProperty("java.class.path"));
    private static final String NAME = "ReadmeCalls";
    private static final Pattern BLOCK = Pattern.compile("```java\n(.*?)```", Pattern.DOTALL);
    private static final Pattern ANSWERED =
            Pattern.compile("(x\\..*\\)); *// (?:(-?[0-9]+)\\b|throws ([A-Za-z]+)).*");

    private ReadmeTest() {
    }

    /** The line of a program that makes the call of a line of the page. */
    private static String program(String line) {
        Matcher answered = ANSWERED.matcher(line);
        if (!answered.matches()) {
            return line;
        }
        String call = answered.group(1);
        String due = answered.group(2) != null ? answered.group(2) : "throws." + answered.group(3);
        return "Check.same(\"README.md: " + call + "\", \"" + due + "\", Check.outcome(() -> " + call
                + "));";
    }

    private static String program(String[] lines) {
        StringBuilder out = new StringBuilder("public final class " + NAME
                + " { public static void go() {\n");
        int answers = 0;
        for (String line : lines) {
            String made = program(line);
            answers += made.equals(line) ? 0 : 1;
            out.append(made).append('\n');
        }
        Check.holds("README.md tells what calls answer", answers > 20);
        return out.append("} }\n").toString();
    }

    private static boolean compiles(Path source) throws IOException {
        JavaCompiler compiler = ToolProvider.getSystemJavaCompiler();
        try (StandardJavaFileManager files = compiler.getStandardFileManager(null, null, null)) {
            List<String> options = List.of("-d", PLACE.toString(), "-cp", PLACE.toString());
            return compiler.getTask(null, files, null, options, null,
                    files.getJavaFileObjects(source)).call();
        }
    }

    private static void callsAnswer(String page) throws IOException, ReflectiveOperationException {
        Matcher block = BLOCK.matcher(page);
        if (!block.find()) {
            Check.holds("README.md shows calls", false);
            return;
        }
        Path source = PLACE.resolve(NAME + ".java");
        Files.writeString(source, program(block.group(1).split("\n")));
        boolean fine = compiles(source);
        Check.holds("the calls of README.md compile", fine);
        if (fine) {
            Class.forName(NAME).getMethod("go").invoke(null);
        }
    }

    private static void namesEachMethod(String page) {
        for (Method method : AssignmentWorkbench.class.getDeclaredMethods()) {
            if (Modifier.isPublic(method.getModifiers())) {
                Check.holds("README.md names " + method.getName(),
                        page.contains("`" + method.getName() + "`"));
            }
        }
    }

    public static void main(String[] args) throws IOException, ReflectiveOperationException {
        String page = Files.readString(README);
        callsAnswer(page);
        namesEachMethod(page);
        Check.end("ReadmeTest");
    }
}
