import com.sun.source.tree.CompilationUnitTree;
import com.sun.source.tree.MethodInvocationTree;
import com.sun.source.tree.MethodTree;
import com.sun.source.util.JavacTask;
import com.sun.source.util.TreePathScanner;
import com.sun.source.util.Trees;
import java.io.IOException;
import java.nio.file.Path;
import java.util.ArrayList;
import java.util.HashSet;
import java.util.List;
import java.util.Map;
import java.util.Set;
import java.util.TreeMap;
import java.util.TreeSet;
import javax.lang.model.element.Element;
import javax.lang.model.element.Modifier;
import javax.tools.JavaCompiler;
import javax.tools.StandardJavaFileManager;
import javax.tools.ToolProvider;

/** Which method of a source file calls which of the same file, as javac itself understands it. */
final class CallGraph {
    private final Map<String, Set<String>> calls = new TreeMap<>();
    private final Set<String> privates = new HashSet<>();

    static CallGraph of(Path source) throws IOException {
        CallGraph graph = new CallGraph();
        JavaCompiler javac = ToolProvider.getSystemJavaCompiler();
        try (StandardJavaFileManager files = javac.getStandardFileManager(null, null, null)) {
            JavacTask task = (JavacTask) javac.getTask(null, files, null, List.of("-proc:none"), null,
                files.getJavaFileObjects(source));
            Iterable<? extends CompilationUnitTree> units = task.parse();
            task.analyze();
            graph.new Reader(Trees.instance(task)).scan(units, null);
        }
        for (Set<String> called : graph.calls.values()) {
            called.retainAll(graph.calls.keySet());
        }
        return graph;
    }

    private final class Reader extends TreePathScanner<Void, Void> {
        private final Trees trees;
        private Set<String> called = new TreeSet<>();

        Reader(Trees trees) {
            this.trees = trees;
        }

        @Override
        public Void visitMethod(MethodTree method, Void none) {
            Element element = trees.getElement(getCurrentPath());
            called = calls.computeIfAbsent(nameOf(element), k -> new TreeSet<>());
            if (element.getModifiers().contains(Modifier.PRIVATE)) {
                privates.add(nameOf(element));
            }
            return super.visitMethod(method, none);
        }

        @Override
        public Void visitMethodInvocation(MethodInvocationTree call, Void none) {
            called.add(nameOf(trees.getElement(getCurrentPath())));
            return super.visitMethodInvocation(call, none);
        }

        private String nameOf(Element method) {
            return method.getEnclosingElement().getSimpleName() + "." + method.getSimpleName();
        }
    }

    int size() {
        return calls.size();
    }

    boolean isPrivate(String method) {
        return privates.contains(method);
    }

    /** Those from which one can come to them again. */
    Set<String> recursive() {
        Set<String> found = new TreeSet<>();
        for (String method : calls.keySet()) {
            Set<String> reached = new HashSet<>();
            reach(method, reached);
            if (reached.contains(method)) {
                found.add(method);
            }
        }
        return found;
    }

    private void reach(String from, Set<String> reached) {
        for (String called : calls.get(from)) {
            if (reached.add(called)) {
                reach(called, reached);
            }
        }
    }

    /** The longest chain of calls from one of these methods in which none stands twice. */
    List<String> longestChain(Set<String> from) {
        List<String> longest = new ArrayList<>();
        for (String method : from) {
            List<String> chain = new ArrayList<>(List.of(method));
            lengthen(chain, longest);
        }
        return longest;
    }

    private void lengthen(List<String> chain, List<String> longest) {
        if (chain.size() > longest.size()) {
            longest.clear();
            longest.addAll(chain);
        }
        for (String called : calls.get(chain.get(chain.size() - 1))) {
            if (!chain.contains(called)) {
                chain.add(called);
                lengthen(chain, longest);
                chain.remove(chain.size() - 1);
            }
        }
    }

    Set<String> methods() {
        return calls.keySet();
    }
}
