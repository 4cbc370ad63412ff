import com.sun.source.tree.ClassTree;
import com.sun.source.tree.CompilationUnitTree;
import com.sun.source.tree.MethodInvocationTree;
import com.sun.source.tree.MethodTree;
import com.sun.source.tree.NewClassTree;
import com.sun.source.util.JavacTask;
import com.sun.source.util.TreePathScanner;
import com.sun.source.util.Trees;
import java.io.IOException;
import java.util.ArrayList;
import java.util.List;
import java.util.Map;
import java.util.Set;
import java.util.TreeMap;
import java.util.TreeSet;
import javax.lang.model.element.Element;
import javax.tools.JavaCompiler;
import javax.tools.StandardJavaFileManager;
import javax.tools.ToolProvider;

/** Rules 8 and 11 of ../shared/LANGUAGE.md: calls that are no recursion go eight deep at most; what may call itself. */
public final class DepthTest {
    private static final String SOURCE = "src/main/java/PeeledHash.java";
    private static final int MOST = 8;
    private static final Set<String> RECURSION = Set.of("Reader.readTest", "Reader.readBoth", "Reader.readPlain", "Reader.readSum",
            "Reader.readTerm", "Reader.readPiece");
    private static final Map<String, Set<String>> CALLS = new TreeMap<>();

    public static void main(String[] args) throws IOException {
        Checks checks = new Checks();
        collectCalls();
        checks.due("methods that call something: " + CALLS.size(), CALLS.size() > 80 ? 1 : 0, 1);
        for (String method : CALLS.keySet()) {
            checks.due(method + " comes to itself", reaches(method).contains(method) ? 1 : 0, RECURSION.contains(method) ? 1 : 0);
            if (method.startsWith("PeeledHash.")) {
                List<String> deepest = deepest(method);
                checks.due(deepest + " is eight deep at most", deepest.size() <= MOST ? 1 : 0, 1);
            }
        }
        checks.finish("DepthTest");
    }

    private static void collectCalls() throws IOException {
        JavaCompiler compiler = ToolProvider.getSystemJavaCompiler();
        try (StandardJavaFileManager files = compiler.getStandardFileManager(null, null, null)) {
            JavacTask task = (JavacTask) compiler.getTask(null, files, null, null, null, files.getJavaFileObjects(SOURCE));
            Iterable<? extends CompilationUnitTree> units = task.parse();
            task.analyze();
            for (CompilationUnitTree unit : units) {
                new Collector(Trees.instance(task)).scan(unit, null);
            }
        }
    }

    private static final class Collector extends TreePathScanner<Void, Void> {
        private final Trees trees;
        private String within = "";

        Collector(Trees trees) {
            this.trees = trees;
        }

        /** What a field is made with is called by the constructor. */
        @Override
        public Void visitClass(ClassTree one, Void nothing) {
            String around = within;
            within = trees.getElement(getCurrentPath()).getSimpleName() + ".<init>";
            super.visitClass(one, nothing);
            within = around;
            return null;
        }

        @Override
        public Void visitMethod(MethodTree method, Void nothing) {
            String around = within;
            within = name(trees.getElement(getCurrentPath()));
            super.visitMethod(method, nothing);
            within = around;
            return null;
        }

        @Override
        public Void visitMethodInvocation(MethodInvocationTree call, Void nothing) {
            keep();
            return super.visitMethodInvocation(call, nothing);
        }

        @Override
        public Void visitNewClass(NewClassTree call, Void nothing) {
            keep();
            return super.visitNewClass(call, nothing);
        }

        private void keep() {
            CALLS.computeIfAbsent(within, one -> new TreeSet<>()).add(name(trees.getElement(getCurrentPath())));
        }

        private static String name(Element method) {
            return method.getEnclosingElement().getSimpleName() + "." + method.getSimpleName();
        }
    }

    private static Set<String> reaches(String method) {
        Set<String> reached = new TreeSet<>();
        List<String> open = new ArrayList<>(CALLS.getOrDefault(method, Set.of()));
        while (!open.isEmpty()) {
            String one = open.remove(open.size() - 1);
            if (reached.add(one)) {
                open.addAll(CALLS.getOrDefault(one, Set.of()));
            }
        }
        return reached;
    }

    /** The longest way down; what is recursion is a level of its own that does not count. */
    private static List<String> deepest(String method) {
        List<String> best = List.of();
        for (String called : CALLS.getOrDefault(method, Set.of())) {
            List<String> below = RECURSION.contains(called) ? List.of() : deepest(called);
            best = below.size() > best.size() ? below : best;
        }
        List<String> all = new ArrayList<>(List.of(method));
        all.addAll(best);
        return all;
    }
}
