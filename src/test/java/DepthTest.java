import com.sun.source.tree.CompilationUnitTree;
import com.sun.source.tree.MethodInvocationTree;
import com.sun.source.tree.MethodTree;
import com.sun.source.tree.NewClassTree;
import com.sun.source.util.JavacTask;
import com.sun.source.util.TreePath;
import com.sun.source.util.TreePathScanner;
import com.sun.source.util.Trees;
import java.nio.file.Path;
import java.util.HashMap;
import java.util.HashSet;
import java.util.List;
import java.util.Map;
import java.util.Set;
import java.util.TreeSet;
import javax.lang.model.element.Element;
import javax.tools.JavaCompiler;
import javax.tools.StandardJavaFileManager;
import javax.tools.ToolProvider;

/** Who calls whom in the program: calls go at most eight deep, none comes back to itself, and each method is called. */
public final class DepthTest {
    private static final int DEEPEST = 8;

    private final Check check = new Check();
    private final Map<Element, Set<Element>> calls = new HashMap<>();
    private final Map<Element, Integer> depths = new HashMap<>();
    private final Set<Element> called = new HashSet<>();
    private final Set<String> library = new TreeSet<>();

    public static void main(String[] args) throws Exception {
        DepthTest test = new DepthTest();
        test.read();
        test.look();
        test.check.end();
    }

    private void read() throws Exception {
        JavaCompiler compiler = ToolProvider.getSystemJavaCompiler();
        StandardJavaFileManager files = compiler.getStandardFileManager(null, null, null);
        JavacTask task = (JavacTask) compiler.getTask(null, files, null, null, null,
            files.getJavaFileObjects(Path.of("src/main/java/EditGuess.java")));
        Iterable<? extends CompilationUnitTree> units = task.parse();
        task.analyze();
        Trees trees = Trees.instance(task);
        for (CompilationUnitTree unit : units) {
            new Scan(trees).scan(new TreePath(unit), null);
        }
    }

    private final class Scan extends TreePathScanner<Void, Void> {
        private final Trees trees;
        private Element inside;

        Scan(Trees trees) {
            this.trees = trees;
        }

        @Override
        public Void visitMethod(MethodTree tree, Void nothing) {
            Element before = inside;
            inside = trees.getElement(getCurrentPath());
            calls.put(inside, new HashSet<>());
            super.visitMethod(tree, nothing);
            inside = before;
            return null;
        }

        @Override
        public Void visitMethodInvocation(MethodInvocationTree tree, Void nothing) {
            note();
            return super.visitMethodInvocation(tree, nothing);
        }

        @Override
        public Void visitNewClass(NewClassTree tree, Void nothing) {
            note();
            return super.visitNewClass(tree, nothing);
        }

        private void note() {
            Element callee = trees.getElement(getCurrentPath());
            if (inside != null) {
                calls.get(inside).add(callee);
            }
            called.add(callee);
        }
    }

    private int depth(Element method, Set<Element> open) {
        if (depths.containsKey(method)) {
            return depths.get(method);
        }
        check.holds("no call comes back to " + method, open.add(method));
        int deepest = 0;
        for (Element callee : calls.getOrDefault(method, Set.of())) {
            deepest = Math.max(deepest, open.contains(callee) ? 1000 : depth(callee, open));
        }
        open.remove(method);
        if (!calls.containsKey(method)) {
            library.add(method.getEnclosingElement() + "." + method);
        }
        depths.put(method, deepest + 1);
        return deepest + 1;
    }

    private void look() {
        check.holds("methods were found: " + calls.size(), calls.size() > 100);
        int deepest = 0;
        for (Element method : List.copyOf(calls.keySet())) {
            int depth = depth(method, new HashSet<>());
            deepest = Math.max(deepest, depth);
            check.holds(method.getEnclosingElement() + "." + method + " goes " + depth + " deep", depth <= DEEPEST);
            boolean open = method.getModifiers().stream().anyMatch(modifier -> modifier.toString().equals("public"));
            boolean constructor = method.getSimpleName().contentEquals("<init>");
            check.holds(method.getEnclosingElement() + "." + method + " is called", open || constructor
                || called.contains(method));
        }
        System.out.println("calls go " + deepest + " deep; of the library are called " + library);
        Set<String> may = Set.of("java.lang.Math.max(int,int)", "java.lang.Math.min(int,int)", "java.lang.Math.abs(int)",
            "java.lang.Object.Object()");
        check.holds("of the library are called " + library, may.containsAll(library));
    }
}
