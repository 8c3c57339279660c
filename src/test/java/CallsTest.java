import com.sun.source.tree.ClassTree;
import com.sun.source.tree.CompilationUnitTree;
import com.sun.source.tree.MethodInvocationTree;
import com.sun.source.tree.MethodTree;
import com.sun.source.tree.NewClassTree;
import com.sun.source.tree.Tree;
import com.sun.source.util.JavacTask;
import com.sun.source.util.TreePath;
import com.sun.source.util.TreePathScanner;
import com.sun.source.util.Trees;
import java.nio.file.Path;
import java.util.ArrayList;
import java.util.LinkedHashMap;
import java.util.LinkedHashSet;
import java.util.List;
import java.util.Map;
import java.util.Set;
import javax.lang.model.element.Element;
import javax.lang.model.element.Modifier;
import javax.tools.JavaCompiler;
import javax.tools.StandardJavaFileManager;
import javax.tools.ToolProvider;

/** Rules of LANGUAGE.md on calls, by the compiler's own trees: which method each call reaches, and how deep. */
public final class CallsTest {
    private static final Path SOURCE = Path.of("src/main/java/CopyWhileRun.java");
    // Rule 11 has eight; one level is left for whoever calls.
    private static final int DEEPEST = 7;
    private static final Set<String> LIBRARY = Set.of(
            "java.lang.System.arraycopy", "java.util.Arrays.fill", "java.lang.Math.min", "java.lang.Math.max",
            "java.lang.Math.abs", "java.lang.Integer.bitCount", "java.lang.Long.bitCount",
            "java.lang.String.length", "java.lang.String.charAt", "java.lang.Object.<init>");
    private static final Set<Tree.Kind> RULED_OUT = Set.of(
            Tree.Kind.LAMBDA_EXPRESSION, Tree.Kind.MEMBER_REFERENCE, Tree.Kind.THROW, Tree.Kind.TRY,
            Tree.Kind.SYNCHRONIZED, Tree.Kind.ASSERT);
    private static final Map<Element, Set<Element>> calls = new LinkedHashMap<>();
    private static int wrong = 0;

    private static void mustHold(boolean holds, String what) {
        if (!holds) {
            wrong++;
            System.out.println(what);
        }
    }

    public static void main(String[] args) throws Exception {
        JavaCompiler compiler = ToolProvider.getSystemJavaCompiler();
        try (StandardJavaFileManager files = compiler.getStandardFileManager(null, null, null)) {
            JavacTask task = (JavacTask) compiler.getTask(null, files, null, null, null,
                    files.getJavaFileObjects(SOURCE));
            Iterable<? extends CompilationUnitTree> units = task.parse();
            task.analyze();
            for (CompilationUnitTree unit : units) {
                new Reader(Trees.instance(task)).scan(unit, null);
            }
        }
        List<Element> deepest = new ArrayList<>();
        for (Element method : calls.keySet()) {
            List<Element> way = longestFrom(method, new LinkedHashSet<>());
            deepest = way.size() > deepest.size() ? way : deepest;
        }
        mustHold(calls.size() > 100, "methods read: " + calls.size());
        mustHold(deepest.size() <= DEEPEST, "rule 11: calls go " + deepest.size() + " deep: " + deepest);
        System.out.println(wrong == 0 ? "calls go " + deepest.size() + " deep, by the rules" : wrong + " do not hold");
        if (wrong != 0) {
            System.exit(1);
        }
    }

    /** The longest way down from a method, it too; a way that comes back to itself is an error. */
    private static List<Element> longestFrom(Element method, Set<Element> above) {
        List<Element> longest = new ArrayList<>();
        if (!above.add(method)) {
            mustHold(false, "rule 8: recursion by " + method + ", which has no depth to carry");
            return longest;
        }
        for (Element called : calls.getOrDefault(method, Set.of())) {
            List<Element> way = longestFrom(called, above);
            longest = way.size() > longest.size() ? way : longest;
        }
        above.remove(method);
        List<Element> whole = new ArrayList<>(List.of(method));
        whole.addAll(longest);
        return whole;
    }

    /** Notes for each method which own ones it calls; all others must be of the library's list. */
    private static final class Reader extends TreePathScanner<Void, Void> {
        private final Trees trees;
        private Element within;

        Reader(Trees trees) {
            this.trees = trees;
        }

        @Override
        public Void scan(Tree tree, Void none) {
            mustHold(tree == null || !RULED_OUT.contains(tree.getKind()), "rules 2 and 6: " + tree);
            return super.scan(tree, none);
        }

        @Override
        public Void visitClass(ClassTree tree, Void none) {
            TreePath around = getCurrentPath().getParentPath();
            boolean outermost = around.getLeaf().getKind() == Tree.Kind.COMPILATION_UNIT;
            mustHold(outermost || around.getLeaf().getKind() == Tree.Kind.CLASS
                    && tree.getModifiers().getFlags().contains(Modifier.STATIC),
                    "rule 2: not a static class inside the class: " + tree.getSimpleName());
            return super.visitClass(tree, none);
        }

        @Override
        public Void visitMethod(MethodTree tree, Void none) {
            within = trees.getElement(getCurrentPath());
            calls.put(within, new LinkedHashSet<>());
            super.visitMethod(tree, none);
            within = null;
            return null;
        }

        @Override
        public Void visitMethodInvocation(MethodInvocationTree tree, Void none) {
            note(trees.getElement(getCurrentPath()));
            return super.visitMethodInvocation(tree, none);
        }

        @Override
        public Void visitNewClass(NewClassTree tree, Void none) {
            mustHold(tree.getClassBody() == null, "rule 2: an anonymous class: " + tree);
            return super.visitNewClass(tree, none);
        }

        private void note(Element called) {
            String owner = called.getEnclosingElement().toString();
            if (owner.startsWith("CopyWhileRun")) {
                mustHold(within != null, "a call outside of all methods: " + called);
                calls.getOrDefault(within, new LinkedHashSet<>()).add(called);
            } else {
                String name = owner + "." + called.getSimpleName();
                mustHold(LIBRARY.contains(name), "rule 4: the library: " + name);
            }
        }
    }
}
