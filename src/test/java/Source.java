import com.sun.source.tree.ClassTree;
import com.sun.source.tree.CompilationUnitTree;
import com.sun.source.tree.MethodTree;
import com.sun.source.tree.Tree;
import com.sun.source.tree.VariableTree;
import com.sun.source.util.JavacTask;
import com.sun.source.util.SourcePositions;
import com.sun.source.util.TreeScanner;
import com.sun.source.util.Trees;
import java.io.IOException;
import java.nio.file.Path;
import java.util.ArrayList;
import java.util.List;
import javax.lang.model.element.Modifier;
import javax.tools.JavaCompiler;
import javax.tools.StandardJavaFileManager;
import javax.tools.ToolProvider;

/** The source of the program as javac reads it, so that a test can look at how it is written. */
final class Source {
    final CompilationUnitTree unit;
    final ClassTree program;
    private final SourcePositions positions;

    Source(Path file) throws IOException {
        JavaCompiler compiler = ToolProvider.getSystemJavaCompiler();
        try (StandardJavaFileManager files = compiler.getStandardFileManager(null, null, null)) {
            JavacTask task = (JavacTask) compiler.getTask(null, files, null, null, null, files.getJavaFileObjects(file));
            unit = task.parse().iterator().next();
            positions = Trees.instance(task).getSourcePositions();
        }
        program = (ClassTree) unit.getTypeDecls().get(0);
    }

    /** All parts of a kind, from a part on downwards, that part too. */
    static <T extends Tree> List<T> all(Tree top, Class<T> kind) {
        List<T> found = new ArrayList<>();
        new TreeScanner<Void, Void>() {
            @Override
            public Void scan(Tree tree, Void none) {
                if (kind.isInstance(tree)) {
                    found.add(kind.cast(tree));
                }
                return super.scan(tree, none);
            }
        }.scan(top, null);
        return found;
    }

    /** The members of a kind: not what stands inside of them. */
    private <T extends Tree> List<T> members(Class<T> kind) {
        return program.getMembers().stream().filter(kind::isInstance).map(kind::cast).toList();
    }

    List<MethodTree> methods() {
        return members(MethodTree.class);
    }

    List<VariableTree> fields() {
        return members(VariableTree.class);
    }

    static boolean isStatic(VariableTree field) {
        return field.getModifiers().getFlags().contains(Modifier.STATIC);
    }

    long lines(Tree part) {
        return line(positions.getEndPosition(unit, part)) - line(positions.getStartPosition(unit, part)) + 1;
    }

    /** Where a part stands, to be printed. */
    String place(Tree part) {
        String words = part.toString().trim().lines().findFirst().orElse("");
        return "line " + line(positions.getStartPosition(unit, part)) + ", " + words;
    }

    private long line(long position) {
        return unit.getLineMap().getLineNumber(position);
    }
}
