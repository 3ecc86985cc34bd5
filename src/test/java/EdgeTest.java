import java.io.IOException;
import java.lang.reflect.InvocationTargetException;
import java.lang.reflect.Method;
import java.lang.reflect.Modifier;
import java.nio.file.Files;
import java.nio.file.Path;
import java.util.ArrayList;
import java.util.LinkedHashMap;
import java.util.List;
import java.util.Map;
import java.util.TreeSet;

/**
 * Runs the tests of the boundaries, each on its own, as EDGES.md lists them; that list has to
 * hold all sentences of the document's description and promises, and all these tests once.
 */
public final class EdgeTest {
    private static final Path LIST = Path.of("EDGES.md");
    private static final Path DOCUMENT = Path.of("../shared/DOC.md");
    private static final String NO_TEST = "names none";
    private static final Class<?>[] TESTS = {ProblemEdges.class, AssignmentEdges.class,
        FixingEdges.class, SearchEdges.class, ScriptEdges.class};

    /** A line of the list. */
    private record Row(String section, String sentence, List<String> tests) {
    }

    private static String plain(String text) {
        return text.replaceAll("\\s+", " ").trim();
    }

    private static List<Row> rows() throws IOException {
        List<Row> rows = new ArrayList<>();
        String section = "";
        for (String line : Files.readAllLines(LIST)) {
            if (line.startsWith("## ")) {
                section = line.substring(3);
            }
            String[] cells = line.split(" ?\\| ?");
            if (!line.startsWith("| ") || cells.length != 3 || cells[1].equals("sentence")) {
                continue;
            }
            List<String> tests = new ArrayList<>();
            for (String test : cells[2].replace("`", "").split(", ")) {
                if (!test.equals(NO_TEST)) {
                    tests.add(test.trim());
                }
            }
            rows.add(new Row(section, plain(cells[1].replace("\\*", "*")), tests));
        }
        return rows;
    }

    /** The document's sentences by section, without its signatures and what only groups them. */
    private static Map<String, String> sections() throws IOException {
        Map<String, String> sections = new LinkedHashMap<>();
        String section = "";
        for (String line : Files.readAllLines(DOCUMENT)) {
            if (line.startsWith("## ")) {
                section = line.substring(3);
            } else if (line.matches("[A-Z ,]+") && !line.isBlank()) {
                section = line;
            } else if (line.equals("The constants:")) {
                section = "The constants";
            } else if (!line.startsWith("`") && !line.startsWith("---- ")) {
                sections.merge(section, line, (before, more) -> before + " " + more);
            }
        }
        sections.remove("");
        sections.remove("The public face");
        sections.remove("Not promised");
        sections.replaceAll((name, text) -> plain(text));
        sections.values().removeIf(String::isEmpty);
        return sections;
    }

    private static void listIsWhole(List<Row> rows) throws IOException {
        Map<String, String> left = sections();
        for (Row row : rows) {
            String text = left.getOrDefault(row.section(), "");
            int place = text.indexOf(row.sentence());
            Check.holds(row.section() + " has '" + row.sentence() + "'", place >= 0);
            if (place >= 0) {
                String behind = text.substring(place + row.sentence().length());
                left.put(row.section(), text.substring(0, place) + behind);
            }
        }
        for (Map.Entry<String, String> entry : left.entrySet()) {
            Check.same("left of " + entry.getKey(), "", entry.getValue().trim());
        }
    }

    private static Map<String, Method> methods() {
        Map<String, Method> methods = new LinkedHashMap<>();
        for (Class<?> tests : TESTS) {
            for (Method method : tests.getDeclaredMethods()) {
                if (!Modifier.isPrivate(method.getModifiers()) && !method.isSynthetic()) {
                    methods.put(tests.getSimpleName() + "." + method.getName(), method);
                }
            }
        }
        return methods;
    }

    private static void run(Row row, String test, Method method) {
        int before = Check.wrongUpToNow();
        try {
            method.invoke(null);
        } catch (InvocationTargetException e) {
            Check.holds(test + " ends, not with " + e.getCause(), false);
        } catch (IllegalAccessException e) {
            Check.holds(test + " can be called", false);
        }
        if (Check.wrongUpToNow() > before) {
            System.out.println("BROKEN: " + test + ", " + row.section() + ": " + row.sentence());
        }
    }

    public static void main(String[] args) throws IOException {
        List<Row> rows = rows();
        listIsWhole(rows);
        Map<String, Method> methods = methods();
        int tests = methods.size();
        for (Row row : rows) {
            for (String test : row.tests()) {
                Method method = methods.remove(test);
                Check.holds(test + " is there, and listed once", method != null);
                if (method != null) {
                    run(row, test, method);
                }
            }
        }
        Check.same("tests that are not listed", "[]", new TreeSet<>(methods.keySet()).toString());
        System.out.println(rows.size() + " sentences, " + tests + " tests of boundaries");
        Check.end("EdgeTest");
    }
}
