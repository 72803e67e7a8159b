import com.sun.source.tree.CompilationUnitTree;
import com.sun.source.util.JavacTask;
import com.sun.source.util.Trees;
import java.io.IOException;
import java.util.List;
import javax.tools.JavaCompiler;
import javax.tools.StandardJavaFileManager;
import javax.tools.ToolProvider;

/** The program as the compiler has read it. */
final class Source {
    static final String PATH = "src/main/java/QueryHarbor.java";

    final CompilationUnitTree unit;
    final Trees trees;

    Source(String path) throws IOException {
        JavaCompiler compiler = ToolProvider.getSystemJavaCompiler();
        StandardJavaFileManager files = compiler.getStandardFileManager(null, null, null);
        JavacTask task = (JavacTask) compiler.getTask(null, files, null, List.of("-proc:none"), null,
                files.getJavaFileObjects(path));
        unit = task.parse().iterator().next();
        task.analyze();
        trees = Trees.instance(task);
    }

    long lineAt(long position) {
        return unit.getLineMap().getLineNumber(position);
    }
}
