import com.sun.source.tree.BinaryTree;
import com.sun.source.tree.ClassTree;
import com.sun.source.tree.CompilationUnitTree;
import com.sun.source.tree.MethodInvocationTree;
import com.sun.source.tree.MethodTree;
import com.sun.source.tree.NewArrayTree;
import com.sun.source.tree.NewClassTree;
import com.sun.source.tree.Tree;
import com.sun.source.tree.WhileLoopTree;
import com.sun.source.util.JavacTask;
import com.sun.source.util.TreePath;
import com.sun.source.util.TreePathScanner;
import com.sun.source.util.Trees;
import java.io.IOException;
import java.nio.file.Path;
import java.util.List;
import java.util.Map;
import java.util.Set;
import java.util.TreeMap;
import java.util.TreeSet;
import javax.lang.model.element.Element;
import javax.lang.model.element.Modifier;
import javax.tools.JavaCompiler;
import javax.tools.StandardJavaFileManager;
import javax.tools.ToolProvider;

/** The rules of LANGUAGE.md on who calls whom, what is made where and what of the library is used, as the compiler sees them. */
public final class LanguageCallTests {
    private static final Desk DESK = new Desk("calls");
    private static final Set<String> LIBRARY = Set.of("String.charAt", "Math.max", "Math.min", "Math.floorDiv", "Integer.bitCount");
    private static final Set<Tree.Kind> RULED_OUT = Set.of(Tree.Kind.THROW, Tree.Kind.TRY, Tree.Kind.CATCH, Tree.Kind.ASSERT,
        Tree.Kind.SYNCHRONIZED, Tree.Kind.LAMBDA_EXPRESSION, Tree.Kind.MEMBER_REFERENCE, Tree.Kind.IMPORT, Tree.Kind.ANNOTATION);
    private static final int DEEPEST = 8;
    private static final Map<String, Set<String>> CALLS = new TreeMap<>();
    private static final Set<String> PRIVATE = new TreeSet<>();

    public static void main(String[] args) throws IOException {
        JavaCompiler compiler = ToolProvider.getSystemJavaCompiler();
        try (StandardJavaFileManager files = compiler.getStandardFileManager(null, null, null)) {
            JavacTask task = (JavacTask) compiler.getTask(null, files, null, List.of("-proc:none"), null,
                files.getJavaFileObjects(Path.of("src/main/java/AllIsWell.java")));
            Iterable<? extends CompilationUnitTree> units = task.parse();
            task.analyze();
            for (CompilationUnitTree unit : units) {
                new Reader(Trees.instance(task)).scan(unit, null);
            }
        }
        DESK.due("methods were found", CALLS.size() > 100, true);
        for (String method : CALLS.keySet()) {
            if (reach(method).contains(method)) {
                DESK.due("rule 8: " + method + " calls itself and is private", PRIVATE.contains(method), true);
            }
            int deep = depth(method);
            DESK.due("rule 11: " + method + " goes " + deep + " deep", deep <= DEEPEST, true);
        }
        Desk.close("LanguageCallTests");
    }

    /** All methods that a method calls, by others too. */
    private static Set<String> reach(String method) {
        Set<String> reached = new TreeSet<>();
        List<String> open = new java.util.ArrayList<>(CALLS.get(method));
        while (!open.isEmpty()) {
            String next = open.remove(open.size() - 1);
            if (reached.add(next)) {
                open.addAll(CALLS.getOrDefault(next, Set.of()));
            }
        }
        return reached;
    }

    /** How many methods stand open at once at the most; those that call one another in a ring count as one. */
    private static int depth(String method) {
        Set<String> ring = new TreeSet<>();
        ring.add(method);
        for (String other : reach(method)) {
            if (reach(other).contains(method)) {
                ring.add(other);
            }
        }
        int deepest = 0;
        for (String one : ring) {
            for (String called : CALLS.get(one)) {
                if (!ring.contains(called)) {
                    deepest = Math.max(deepest, depth(called));
                }
            }
        }
        return deepest + 1;
    }

    private static final class Reader extends TreePathScanner<Void, Void> {
        private final Trees trees;
        private String method = "";

        Reader(Trees trees) {
            this.trees = trees;
        }

        @Override
        public Void scan(Tree tree, Void none) {
            if (tree != null) {
                DESK.due("rules 2, 4, 6: " + tree.getKind() + " in " + method, RULED_OUT.contains(tree.getKind()), false);
            }
            return super.scan(tree, none);
        }

        @Override
        public Void visitMethod(MethodTree tree, Void none) {
            Element element = trees.getElement(getCurrentPath());
            method = nameOf(element);
            DESK.due("one method is named " + method, CALLS.put(method, new TreeSet<>()) == null, true);
            if (element.getModifiers().contains(Modifier.PRIVATE)) {
                PRIVATE.add(method);
            }
            super.visitMethod(tree, none);
            method = "";
            return null;
        }

        @Override
        public Void visitMethodInvocation(MethodInvocationTree tree, Void none) {
            Element called = trees.getElement(new TreePath(getCurrentPath(), tree.getMethodSelect()));
            String name = nameOf(called);
            if (called.getEnclosingElement().toString().startsWith("AllIsWell")) {
                CALLS.getOrDefault(method, new TreeSet<>()).add(name);
            } else if (!name.equals("Object.<init>")) {
                DESK.due("rule 4: " + name + " in " + method + " is listed", LIBRARY.contains(name), true);
            }
            return super.visitMethodInvocation(tree, none);
        }

        @Override
        public Void visitNewClass(NewClassTree tree, Void none) {
            DESK.due("rule 2: a class without a name in " + method, tree.getClassBody() != null, false);
            made();
            return super.visitNewClass(tree, none);
        }

        @Override
        public Void visitNewArray(NewArrayTree tree, Void none) {
            made();
            return super.visitNewArray(tree, none);
        }

        /** All rows are made with the object, so that the room of a run does not grow by calls. */
        private void made() {
            DESK.due("rule 12: " + method + " makes something", method.isEmpty() || method.endsWith(".<init>"), true);
        }

        @Override
        public Void visitClass(ClassTree tree, Void none) {
            DESK.due("rule 2: class " + tree.getSimpleName() + " in a method", method.isEmpty(), true);
            return super.visitClass(tree, none);
        }

        @Override
        public Void visitWhileLoop(WhileLoopTree tree, Void none) {
            DESK.due("rule 9: " + tree.getCondition() + " has a bound", tree.getCondition().toString().contains(" < "), true);
            return super.visitWhileLoop(tree, none);
        }

        @Override
        public Void visitBinary(BinaryTree tree, Void none) {
            Tree.Kind kind = tree.getKind();
            if (kind == Tree.Kind.EQUAL_TO || kind == Tree.Kind.NOT_EQUAL_TO || kind == Tree.Kind.PLUS) {
                String left = String.valueOf(trees.getTypeMirror(new TreePath(getCurrentPath(), tree.getLeftOperand())));
                DESK.due("rules 6, 10: " + tree + " is of texts", left.equals("java.lang.String"), false);
            }
            return super.visitBinary(tree, none);
        }

        private static String nameOf(Element method) {
            return method.getEnclosingElement().getSimpleName() + "." + method.getSimpleName();
        }
    }
}
