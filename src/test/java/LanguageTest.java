import java.io.IOException;
import java.nio.file.Files;
import java.nio.file.Path;
import java.util.ArrayList;
import java.util.List;
import java.util.Set;
import java.util.TreeSet;
import java.util.regex.Matcher;
import java.util.regex.Pattern;

/** Those rules of LANGUAGE.md that can be read off the words of the source. */
public final class LanguageTest {
    private static final Path SOURCE = Path.of("src/main/java/AssignmentWorkbench.java");

    private static final Set<String> EXCEPTIONS = Set.of("IllegalStateException",
            "IllegalArgumentException", "IndexOutOfBoundsException");

    /** Words and signs that the rules leave out, or that this program has no need of. */
    private static final String[] OUT = {
        "\\bpackage\\b", "\\bimport\\b", "->", "::", "\\btry\\b", "\\bcatch\\b", "\\bfinally\\b",
        "\\bsynchronized\\b", "\\bassert\\b", "\\bnative\\b", "\\bvolatile\\b", "\\btransient\\b",
        "\\bvar\\b", "\\bdouble\\b", "\\bfloat\\b", "\\binstanceof\\b", "\\bextends\\b",
        "\\bprotected\\b", "\\byield\\b", "Exact\\b", "System\\.(?!arraycopy)", "\\bjava\\.",
        "\\.(equals|hashCode|toString|getClass)\\b", "\"\\s*\\+", "\\+\\s*\"", "\\bObject\\b",
    };

    private static String withoutComments(String source) {
        return source.replaceAll("(?s)/\\*.*?\\*/", "").replaceAll("//[^\n]*", "");
    }

    /** The lines of each method, counted from its head to the brace that closes it. */
    private static void shortMethods(String code) {
        List<String> lines = List.of(code.split("\n"));
        Pattern head = Pattern.compile("^( {4}| {8})(?=\\w)[\\w\\[\\]<> ]*\\b(\\w+)\\(([^)]*)\\).*");
        for (int i = 0; i < lines.size(); i++) {
            Matcher matcher = head.matcher(lines.get(i));
            if (!matcher.matches() || lines.get(i).contains(";") || lines.get(i).contains("=")) {
                continue;
            }
            int end = i;
            while (end < lines.size() && !lines.get(end).equals(matcher.group(1) + "}")) {
                end++;
            }
            Check.holds(matcher.group(2) + " is at most sixty lines long", end - i < 60);
            Check.holds(matcher.group(2) + " takes at most seven parameters",
                    matcher.group(3).split(",").length <= 7);
        }
    }

    private static void matches(String code, String pattern, Set<String> allowed) {
        Matcher matcher = Pattern.compile(pattern).matcher(code);
        while (matcher.find()) {
            Check.holds(matcher.group() + " is allowed", allowed.contains(matcher.group(1)));
        }
    }

    public static void main(String[] args) throws IOException {
        String source = Files.readString(SOURCE);
        for (int i = 0; i < source.length(); i++) {
            if (source.charAt(i) > 126) {
                Check.holds("the sign at " + i + " is plain", false);
            }
        }
        String code = withoutComments(source);
        for (String out : OUT) {
            Check.holds("no " + out, !Pattern.compile(out).matcher(code).find());
        }
        matches(code, "throw new (\\w+)", EXCEPTIONS);
        matches(code, "\\bthrow (\\w+)", Set.of("new"));
        matches(code, "\\b([A-Z]\\w*[a-z]\\w*)\\.\\w+\\(", Set.of("Math", "Integer", "System"));
        matches(code, "Math\\.(\\w+)", Set.of("min", "max"));
        matches(code, "Integer\\.(\\w+)", Set.of("bitCount"));
        Set<String> classes = new TreeSet<>();
        Matcher inner = Pattern.compile("private static final class (\\w+)").matcher(code);
        while (inner.find()) {
            classes.add(inner.group(1));
        }
        Check.holds("at most twelve classes", classes.size() < 12);
        List<String> made = new ArrayList<>();
        Matcher news = Pattern.compile("\\bnew (\\w+)").matcher(code);
        while (news.find()) {
            made.add(news.group(1));
        }
        classes.addAll(EXCEPTIONS);
        classes.addAll(Set.of("int", "long", "char"));
        Check.holds("nothing else is made, of " + made, classes.containsAll(made));
        matches(code, "\\n {4}static .*?(\\w+) =", Set.of());
        matches(code, "static (?!final)[\\w\\[\\]]+ (\\w+)( =|;)", Set.of());
        shortMethods(code);
        Check.end("LanguageTest");
    }
}
