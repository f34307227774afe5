import com.sun.source.tree.CompilationUnitTree;
import com.sun.source.tree.MethodInvocationTree;
import com.sun.source.tree.MethodTree;
import com.sun.source.tree.NewClassTree;
import com.sun.source.util.JavacTask;
import com.sun.source.util.TreePathScanner;
import com.sun.source.util.Trees;
import java.io.File;
import java.io.IOException;
import java.util.ArrayList;
import java.util.LinkedHashMap;
import java.util.List;
import java.util.Map;
import java.util.Set;
import java.util.TreeSet;
import javax.lang.model.element.Element;
import javax.tools.JavaCompiler;
import javax.tools.StandardJavaFileManager;
import javax.tools.ToolProvider;

/**
 * Rules 8 and 11 of ../shared/LANGUAGE.md, asked of the source as javac reads it: calls that are no recursion go at
 * most eight deep, and none but the readers of DRIFT call themselves or one another.
 */
public final class CallDepthTest {
    private static final Due due = new Due("CallDepthTest");
    private static final String DRIFT = "HalvingMender.Drift.";
    private static final Set<String> READERS =
        Set.of(DRIFT + "readSum", DRIFT + "readProduct", DRIFT + "readThing", DRIFT + "readChoice");

    private static final Map<String, Set<String>> calls = new LinkedHashMap<>();

    public static void main(String[] args) throws IOException {
        read();
        due.is("methods were read", calls.size() > 100, true);
        for (String reader : READERS) {
            due.is(reader + " was read", calls.containsKey(reader), true);
        }
        for (String method : calls.keySet()) {
            due.is(method + " goes too deep", deepest(method, new ArrayList<>()) <= 8, true);
        }
        due.end();
    }

    private static void read() throws IOException {
        JavaCompiler javac = ToolProvider.getSystemJavaCompiler();
        StandardJavaFileManager files = javac.getStandardFileManager(null, null, null);
        JavacTask task = (JavacTask) javac.getTask(null, files, null, List.of("-proc:none"), null,
            files.getJavaFileObjects(new File("src/main/java/HalvingMender.java")));
        Iterable<? extends CompilationUnitTree> units = task.parse();
        task.analyze();
        Trees trees = Trees.instance(task);
        for (CompilationUnitTree unit : units) {
            new CallScanner(trees).scan(unit, null);
        }
    }

    private static final class CallScanner extends TreePathScanner<Void, Void> {
        private final Trees trees;
        private String method = null;

        CallScanner(Trees trees) {
            this.trees = trees;
        }

        private String named() {
            Element e = trees.getElement(getCurrentPath());
            return e.getEnclosingElement() + "." + e.getSimpleName();
        }

        @Override
        public Void visitMethod(MethodTree tree, Void none) {
            method = named();
            calls.putIfAbsent(method, new TreeSet<>());
            super.visitMethod(tree, none);
            method = null;
            return null;
        }

        @Override
        public Void visitMethodInvocation(MethodInvocationTree tree, Void none) {
            note();
            return super.visitMethodInvocation(tree, none);
        }

        @Override
        public Void visitNewClass(NewClassTree tree, Void none) {
            note();
            return super.visitNewClass(tree, none);
        }

        private void note() {
            if (method != null) {
                calls.get(method).add(named());
            }
        }
    }

    /** How many calls stand open at most, those ahead of this one that are in the chain not counted. */
    private static int deepest(String method, List<String> chain) {
        if (chain.contains(method)) {
            due.is(method + " calls itself by " + chain, true, false);
            return 0;
        }
        chain.add(method);
        int most = 0;
        for (String next : calls.getOrDefault(method, Set.of())) {
            // the readers of DRIFT are recursion among themselves, which a depth guards
            if (!(READERS.contains(method) && READERS.contains(next))) {
                most = Math.max(most, deepest(next, chain));
            }
        }
        chain.remove(chain.size() - 1);
        return most + 1;
    }
}
