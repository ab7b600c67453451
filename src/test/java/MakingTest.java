import com.sun.source.tree.CompilationUnitTree;
import com.sun.source.tree.DoWhileLoopTree;
import com.sun.source.tree.EnhancedForLoopTree;
import com.sun.source.tree.ForLoopTree;
import com.sun.source.tree.MethodTree;
import com.sun.source.tree.NewArrayTree;
import com.sun.source.tree.NewClassTree;
import com.sun.source.tree.ThrowTree;
import com.sun.source.tree.Tree;
import com.sun.source.tree.WhileLoopTree;
import com.sun.source.util.JavacTask;
import com.sun.source.util.TreePath;
import com.sun.source.util.TreePathScanner;
import java.io.IOException;
import java.nio.file.Path;
import java.util.List;
import javax.tools.JavaCompiler;
import javax.tools.StandardJavaFileManager;
import javax.tools.ToolProvider;

/**
 * What a run makes can be told from the class's lines (LANGUAGE.md, rule 12): objects and arrays
 * are made in constructors and in no loop, and besides only what is thrown. It is run where
 * .ci/run runs it, at the project's root.
 */
public final class MakingTest {
    private static final String SOURCE = "src/main/java/EndTables.java";

    private MakingTest() {
    }

    public static void main(String[] args) throws IOException {
        JavaCompiler compiler = ToolProvider.getSystemJavaCompiler();
        int[] seen = new int[1];
        try (StandardJavaFileManager files = compiler.getStandardFileManager(null, null, null)) {
            JavacTask task = (JavacTask) compiler.getTask(null, files, null, List.of("-proc:none"), null,
                files.getJavaFileObjects(Path.of(args.length > 0 ? args[0] : SOURCE)));
            for (CompilationUnitTree unit : task.parse()) {
                new TreePathScanner<Void, Void>() {
                    @Override
                    public Void visitNewClass(NewClassTree made, Void nothing) {
                        seen[0]++;
                        look(made, getCurrentPath());
                        return super.visitNewClass(made, nothing);
                    }

                    @Override
                    public Void visitNewArray(NewArrayTree made, Void nothing) {
                        seen[0]++;
                        look(made, getCurrentPath());
                        return super.visitNewArray(made, nothing);
                    }
                }.scan(unit, null);
            }
        }
        Check.yes("something is made", seen[0] > 20);
        Check.end("MakingTest");
    }

    private static void look(Tree made, TreePath path) {
        if (path.getParentPath().getLeaf() instanceof ThrowTree) {
            Check.yes("what is thrown is no array: " + made, made instanceof NewClassTree);
            return;
        }
        for (Tree around : path) {
            Check.yes("made in no loop: " + made, !isLoop(around));
            if (around instanceof MethodTree method) {
                Check.yes("made in a constructor: " + made, method.getName().contentEquals("<init>"));
                return;
            }
        }
    }

    private static boolean isLoop(Tree tree) {
        return tree instanceof ForLoopTree || tree instanceof EnhancedForLoopTree || tree instanceof WhileLoopTree
            || tree instanceof DoWhileLoopTree;
    }
}
