import com.sun.source.tree.ArrayAccessTree;
import com.sun.source.tree.BinaryTree;
import com.sun.source.tree.CompilationUnitTree;
import com.sun.source.tree.ExpressionTree;
import com.sun.source.tree.LiteralTree;
import com.sun.source.tree.MethodInvocationTree;
import com.sun.source.tree.MethodTree;
import com.sun.source.tree.NewClassTree;
import com.sun.source.tree.Tree;
import com.sun.source.util.JavacTask;
import com.sun.source.util.TreePath;
import com.sun.source.util.TreePathScanner;
import com.sun.source.util.Trees;
import java.io.IOException;
import java.nio.file.Path;
import java.util.ArrayDeque;
import java.util.Deque;
import java.util.HashMap;
import java.util.LinkedHashMap;
import java.util.Map;
import java.util.Set;
import java.util.TreeSet;
import javax.lang.model.element.Element;
import javax.lang.model.element.VariableElement;
import javax.tools.JavaCompiler;
import javax.tools.StandardJavaFileManager;
import javax.tools.ToolProvider;

/** What the compiler understands of a source file: who calls whom, who indexes an array, who divides by what. */
final class SourceFacts {
    /** From each method or constructor of the file to all that it calls. */
    private final Map<String, Set<String>> calls = new LinkedHashMap<>();
    private final Set<String> indexing = new TreeSet<>();
    private final Set<String> dividing = new TreeSet<>();
    private final Map<String, Integer> depths = new HashMap<>();
    private final Deque<String> open = new ArrayDeque<>();

    SourceFacts(Path source) throws IOException {
        JavaCompiler compiler = ToolProvider.getSystemJavaCompiler();
        try (StandardJavaFileManager files = compiler.getStandardFileManager(null, null, null)) {
            JavacTask task = (JavacTask) compiler.getTask(null, files, null, null, null,
                    files.getJavaFileObjects(source));
            Iterable<? extends CompilationUnitTree> units = task.parse();
            task.analyze();
            for (CompilationUnitTree unit : units) {
                new Reader(Trees.instance(task)).scan(unit, null);
            }
        }
    }

    private final class Reader extends TreePathScanner<Void, Void> {
        private final Trees trees;
        private String method = "outside of methods";

        Reader(Trees trees) {
            this.trees = trees;
        }

        @Override
        public Void visitMethod(MethodTree tree, Void nothing) {
            method = name(tree);
            calls.put(method, new TreeSet<>());
            super.visitMethod(tree, nothing);
            method = "outside of methods";
            return null;
        }

        @Override
        public Void visitMethodInvocation(MethodInvocationTree tree, Void nothing) {
            addCall(tree);
            return super.visitMethodInvocation(tree, nothing);
        }

        @Override
        public Void visitNewClass(NewClassTree tree, Void nothing) {
            addCall(tree);
            return super.visitNewClass(tree, nothing);
        }

        private void addCall(Tree tree) {
            calls.computeIfAbsent(method, any -> new TreeSet<>()).add(name(tree));
        }

        @Override
        public Void visitArrayAccess(ArrayAccessTree tree, Void nothing) {
            indexing.add(method);
            return super.visitArrayAccess(tree, nothing);
        }

        @Override
        public Void visitBinary(BinaryTree tree, Void nothing) {
            boolean divides = tree.getKind() == Tree.Kind.DIVIDE || tree.getKind() == Tree.Kind.REMAINDER;
            if (divides && !isConstant(tree.getRightOperand())) {
                dividing.add(method);
            }
            return super.visitBinary(tree, nothing);
        }

        private boolean isConstant(ExpressionTree tree) {
            return tree instanceof LiteralTree
                    || element(tree) instanceof VariableElement variable && variable.getConstantValue() != null;
        }

        private String name(Tree tree) {
            Element element = element(tree);
            return (element.getEnclosingElement().getSimpleName() + "." + element).replace("java.lang.", "");
        }

        private Element element(Tree tree) {
            return trees.getElement(new TreePath(getCurrentPath(), tree));
        }
    }

    /** The methods and constructors of other files that this one calls. */
    Set<String> libraryCalls() {
        Set<String> called = new TreeSet<>();
        calls.values().forEach(called::addAll);
        called.removeAll(calls.keySet());
        return called;
    }

    Set<String> methodsThatIndexArrays() {
        return indexing;
    }

    Set<String> methodsThatDivideByNoConstant() {
        return dividing;
    }

    Set<String> methodsThatCallThemselves() {
        Set<String> recursive = new TreeSet<>();
        calls.forEach((method, called) -> {
            if (called.contains(method)) {
                recursive.add(method);
            }
        });
        return recursive;
    }

    /** How many methods of the file are open at most while one runs; one that calls itself counts once. */
    int deepestCalls() {
        int deepest = 0;
        for (String method : calls.keySet()) {
            deepest = Math.max(deepest, depth(method));
        }
        return deepest;
    }

    private int depth(String method) {
        if (open.contains(method)) {
            throw new IllegalStateException("methods call one another: " + open);
        }
        Integer known = depths.get(method);
        if (known != null) {
            return known;
        }
        open.push(method);
        int depth = 0;
        for (String called : calls.get(method)) {
            if (calls.containsKey(called) && !called.equals(method)) {
                depth = Math.max(depth, depth(called));
            }
        }
        open.pop();
        depths.put(method, depth + 1);
        return depth + 1;
    }
}
