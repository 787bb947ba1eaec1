import com.sun.source.tree.CompilationUnitTree;
import com.sun.source.tree.Tree;
import com.sun.source.util.JavacTask;
import com.sun.source.util.Trees;
import java.io.IOException;
import java.io.UncheckedIOException;
import java.net.URI;
import java.util.List;
import javax.tools.DiagnosticCollector;
import javax.tools.JavaFileObject;
import javax.tools.SimpleJavaFileObject;
import javax.tools.ToolProvider;

/** A class as javac understands it: its tree, with all names and types known. */
final class Source {
    final CompilationUnitTree unit;
    final Trees trees;
    final List<String> errors;

    Source(String text) {
        DiagnosticCollector<JavaFileObject> said = new DiagnosticCollector<>();
        JavacTask task = (JavacTask) ToolProvider.getSystemJavaCompiler().getTask(
                null, null, said, List.of("--release", "17", "-proc:none"), null, List.of(new Text(text)));
        try {
            unit = task.parse().iterator().next();
            task.analyze();
        } catch (IOException e) {
            throw new UncheckedIOException(e);
        }
        trees = Trees.instance(task);
        errors = said.getDiagnostics().stream().map(Object::toString).toList();
    }

    int firstLine(Tree tree) {
        return (int) unit.getLineMap().getLineNumber(trees.getSourcePositions().getStartPosition(unit, tree));
    }

    int lastLine(Tree tree) {
        return (int) unit.getLineMap().getLineNumber(trees.getSourcePositions().getEndPosition(unit, tree) - 1);
    }

    private static final class Text extends SimpleJavaFileObject {
        private final String text;

        Text(String text) {
            super(URI.create("string:///QuotaTree.java"), Kind.SOURCE);
            this.text = text;
        }

        @Override
        public CharSequence getCharContent(boolean ignoreEncodingErrors) {
            return text;
        }
    }
}
