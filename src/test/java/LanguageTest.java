import com.sun.source.tree.CompilationUnitTree;
import com.sun.source.util.JavacTask;
import com.sun.source.util.Trees;
import java.io.IOException;
import java.nio.file.Files;
import java.nio.file.Path;
import java.util.List;
import javax.tools.JavaCompiler;
import javax.tools.StandardJavaFileManager;
import javax.tools.ToolProvider;

/** The rules of LANGUAGE.md that can be read off the source; see LanguageRules. */
public final class LanguageTest {
    private static final Path SOURCE = Path.of("src/main/java/AssignmentWorkbench.java");

    private LanguageTest() {
    }

    public static void main(String[] args) throws IOException {
        String source = Files.readString(SOURCE);
        Check.holds("no package line", !source.startsWith("package"));
        JavaCompiler compiler = ToolProvider.getSystemJavaCompiler();
        try (StandardJavaFileManager files = compiler.getStandardFileManager(null, null, null)) {
            JavacTask task = (JavacTask) compiler.getTask(null, files, null,
                    List.of("-proc:none"), null, files.getJavaFileObjects(SOURCE));
            CompilationUnitTree unit = task.parse().iterator().next();
            task.analyze();
            Check.holds("rule 1: no package", unit.getPackage() == null);
            Check.same("classes beside each other", 1, unit.getTypeDecls().size());
            new LanguageRules(unit, Trees.instance(task)).check();
        }
        Check.end("LanguageTest");
    }
}
