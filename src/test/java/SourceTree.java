import com.sun.source.tree.ClassTree;
import com.sun.source.tree.CompilationUnitTree;
import com.sun.source.tree.LineMap;
import com.sun.source.tree.Tree;
import com.sun.source.util.JavacTask;
import com.sun.source.util.SourcePositions;
import com.sun.source.util.Trees;
import java.io.File;
import java.io.IOException;
import java.util.List;
import javax.tools.JavaCompiler;
import javax.tools.StandardJavaFileManager;
import javax.tools.ToolProvider;

/** The source of the class, as the compiler's parser reads it. */
final class SourceTree {
    private static final String SOURCE = "src/main/java/TourSolver.java";

    final CompilationUnitTree unit;
    private final SourcePositions places;

    private SourceTree(CompilationUnitTree unit, SourcePositions places) {
        this.unit = unit;
        this.places = places;
    }

    static SourceTree read() throws IOException {
        JavaCompiler compiler = ToolProvider.getSystemJavaCompiler();
        try (StandardJavaFileManager files = compiler.getStandardFileManager(null, null, null)) {
            JavacTask task = (JavacTask) compiler.getTask(null, files, null, List.of("-proc:none"), null,
                files.getJavaFileObjects(new File(SOURCE)));
            return new SourceTree(task.parse().iterator().next(), Trees.instance(task).getSourcePositions());
        }
    }

    List<? extends Tree> members() {
        return ((ClassTree) unit.getTypeDecls().get(0)).getMembers();
    }

    String at(Tree tree) {
        return "line " + firstLine(tree) + ": ";
    }

    long lines(Tree tree) {
        LineMap lines = unit.getLineMap();
        return lines.getLineNumber(places.getEndPosition(unit, tree)) - firstLine(tree) + 1;
    }

    private long firstLine(Tree tree) {
        return unit.getLineMap().getLineNumber(places.getStartPosition(unit, tree));
    }
}
