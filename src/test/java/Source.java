import com.sun.source.tree.ClassTree;
import com.sun.source.tree.CompilationUnitTree;
import com.sun.source.tree.MethodInvocationTree;
import com.sun.source.tree.MethodTree;
import com.sun.source.tree.Tree;
import com.sun.source.tree.VariableTree;
import com.sun.source.util.JavacTask;
import com.sun.source.util.SourcePositions;
import com.sun.source.util.TreeScanner;
import com.sun.source.util.Trees;
import java.io.IOException;
import java.nio.file.Path;
import java.util.ArrayList;
import java.util.List;
import java.util.Map;
import java.util.TreeMap;
import java.util.TreeSet;
import javax.tools.JavaCompiler;
import javax.tools.StandardJavaFileManager;
import javax.tools.ToolProvider;

/** The text of a Java file taken apart, for looking at what it is written with. */
final class Source {
    final CompilationUnitTree unit;
    final List<Tree> trees = new ArrayList<>();
    final List<VariableTree> fields = new ArrayList<>();
    final List<MethodTree> methods = new ArrayList<>();
    final List<VariableTree> locals = new ArrayList<>();
    /** The names that each method calls. */
    final Map<String, TreeSet<String>> calls = new TreeMap<>();
    private final SourcePositions positions;

    Source(Path file) throws IOException {
        JavaCompiler compiler = ToolProvider.getSystemJavaCompiler();
        try (StandardJavaFileManager files = compiler.getStandardFileManager(null, null, null)) {
            var objects = files.getJavaFileObjects(file);
            JavacTask task = (JavacTask) compiler.getTask(null, files, null, null, null, objects);
            unit = task.parse().iterator().next();
            positions = Trees.instance(task).getSourcePositions();
        }
        collect(unit, trees);
        for (Tree type : unit.getTypeDecls()) {
            takeMembers((ClassTree) type);
        }
    }

    /** All trees of one class of trees. */
    <T extends Tree> List<T> all(Class<T> kind) {
        List<T> found = new ArrayList<>();
        for (Tree tree : trees) {
            if (kind.isInstance(tree)) {
                found.add(kind.cast(tree));
            }
        }
        return found;
    }

    /** A tree with all below it. */
    static List<Tree> below(Tree tree) {
        List<Tree> found = new ArrayList<>();
        collect(tree, found);
        return found;
    }

    int lines(Tree tree) {
        return line(positions.getEndPosition(unit, tree)) - line(positions.getStartPosition(unit, tree)) + 1;
    }

    String where(Tree tree) {
        return "line " + line(positions.getStartPosition(unit, tree)) + ": " + tree.toString().strip();
    }

    /** The greatest number of methods in a chain of calls that starts with this one, or more than all for a circle. */
    int depth(String method) {
        TreeSet<String> now = new TreeSet<>(List.of(method));
        int depth = 0;
        while (!now.isEmpty() && depth <= methods.size()) {
            TreeSet<String> next = new TreeSet<>();
            for (String caller : now) {
                next.addAll(calls.getOrDefault(caller, new TreeSet<>()));
            }
            now = next;
            depth++;
        }
        return depth;
    }

    private int line(long position) {
        return (int) unit.getLineMap().getLineNumber(position);
    }

    private void takeMembers(ClassTree type) {
        for (Tree member : type.getMembers()) {
            if (member instanceof VariableTree) {
                fields.add((VariableTree) member);
            } else if (member instanceof MethodTree) {
                takeMethod((MethodTree) member);
            }
        }
    }

    private void takeMethod(MethodTree method) {
        methods.add(method);
        TreeSet<String> called = calls.computeIfAbsent(method.getName().toString(), name -> new TreeSet<>());
        for (Tree tree : below(method.getBody())) {
            if (tree instanceof MethodInvocationTree) {
                called.add(((MethodInvocationTree) tree).getMethodSelect().toString());
            } else if (tree instanceof VariableTree) {
                locals.add((VariableTree) tree);
            }
        }
    }

    private static void collect(Tree root, List<Tree> found) {
        new TreeScanner<Void, Void>() {
            @Override
            public Void scan(Tree tree, Void nothing) {
                if (tree != null) {
                    found.add(tree);
                }
                return super.scan(tree, nothing);
            }
        }.scan(root, null);
    }
}
