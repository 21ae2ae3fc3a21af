import com.sun.source.tree.CompilationUnitTree;
import com.sun.source.tree.MethodInvocationTree;
import com.sun.source.tree.MethodTree;
import com.sun.source.tree.NewClassTree;
import com.sun.source.util.JavacTask;
import com.sun.source.util.TreePathScanner;
import com.sun.source.util.Trees;
import java.nio.file.Path;
import java.util.ArrayList;
import java.util.List;
import java.util.Map;
import java.util.Set;
import java.util.TreeMap;
import java.util.TreeSet;
import javax.lang.model.element.Element;
import javax.tools.JavaCompiler;
import javax.tools.StandardJavaFileManager;
import javax.tools.ToolProvider;

/**
 * Calls that are no recursion go at most eight deep (LANGUAGE.md, rule 11), those of the library counted too, and only
 * methods that carry their depth as an argument call themselves, by themselves or by others (rule 8).
 */
public final class DepthTest {
    private static final int MOST_DEEP = 8;
    // readFact and readTest carry the depth; follow does
    private static final Set<String> RECURSIVE = Set.of("RuleText.readFact", "RuleText.readTest", "Dusk.follow");

    public static void main(String[] args) throws Exception {
        Map<String, Set<String>> calls = callsOf(Path.of("src/main/java/WaterStair.java"));
        int wrong = calls.size() > 100 ? 0 : 1;
        int deepest = 0;
        Set<String> recursive = new TreeSet<>();
        for (String method : calls.keySet()) {
            List<String> chain = deepestChain(calls, method, new ArrayList<>(), recursive);
            deepest = Math.max(deepest, chain.size());
            if (chain.size() > MOST_DEEP) {
                wrong++;
                System.out.println(chain.size() + " deep: " + chain);
            }
        }
        if (!recursive.equals(RECURSIVE)) {
            wrong++;
            System.out.println("methods that call themselves: " + recursive);
        }
        System.out.println(calls.size() + " methods, " + deepest + " deep, " + wrong + " not as LANGUAGE.md asks");
        System.exit(wrong == 0 ? 0 : 1);
    }

    /** The longest row of calls from a method, each of which is open while the next one is; none twice. */
    private static List<String> deepestChain(Map<String, Set<String>> calls, String method, List<String> open, Set<String> recursive) {
        List<String> best = List.of();
        open.add(method);
        for (String called : calls.getOrDefault(method, Set.of())) {
            int at = open.indexOf(called);
            if (at >= 0) {
                recursive.addAll(open.subList(at, open.size()));
                continue;
            }
            List<String> chain = deepestChain(calls, called, open, recursive);
            best = chain.size() > best.size() ? chain : best;
        }
        open.remove(open.size() - 1);
        List<String> all = new ArrayList<>(List.of(method));
        all.addAll(best);
        return all;
    }

    private static Map<String, Set<String>> callsOf(Path program) throws Exception {
        JavaCompiler compiler = ToolProvider.getSystemJavaCompiler();
        Map<String, Set<String>> calls = new TreeMap<>();
        try (StandardJavaFileManager files = compiler.getStandardFileManager(null, null, null)) {
            JavacTask task = (JavacTask) compiler.getTask(null, files, null, List.of("-proc:none"), null, files.getJavaFileObjects(program));
            Iterable<? extends CompilationUnitTree> units = task.parse();
            task.analyze();
            for (CompilationUnitTree unit : units) {
                new Calls(Trees.instance(task), calls).scan(unit, null);
            }
        }
        return calls;
    }

    /** For each method what it calls; what fields are made with is left to the constructors, which call nothing else. */
    private static final class Calls extends TreePathScanner<Void, Void> {
        private final Trees trees;
        private final Map<String, Set<String>> calls;
        private String method = "";

        Calls(Trees trees, Map<String, Set<String>> calls) {
            this.trees = trees;
            this.calls = calls;
        }

        @Override
        public Void visitMethod(MethodTree tree, Void ignored) {
            method = nameOf(trees.getElement(getCurrentPath()));
            calls.put(method, new TreeSet<>());
            super.visitMethod(tree, ignored);
            method = "";
            return null;
        }

        @Override
        public Void visitMethodInvocation(MethodInvocationTree tree, Void ignored) {
            note();
            return super.visitMethodInvocation(tree, ignored);
        }

        @Override
        public Void visitNewClass(NewClassTree tree, Void ignored) {
            note();
            return super.visitNewClass(tree, ignored);
        }

        private void note() {
            Element called = trees.getElement(getCurrentPath());
            if (!method.isEmpty() && called != null) {
                calls.get(method).add(nameOf(called));
            }
        }

        private static String nameOf(Element method) {
            return method.getEnclosingElement().getSimpleName() + "." + method.getSimpleName();
        }
    }
}
