import com.sun.source.tree.BinaryTree;
import com.sun.source.tree.BlockTree;
import com.sun.source.tree.ClassTree;
import com.sun.source.tree.CompilationUnitTree;
import com.sun.source.tree.ExpressionTree;
import com.sun.source.tree.ForLoopTree;
import com.sun.source.tree.ImportTree;
import com.sun.source.tree.LiteralTree;
import com.sun.source.tree.MethodInvocationTree;
import com.sun.source.tree.MethodTree;
import com.sun.source.tree.NewClassTree;
import com.sun.source.tree.Tree;
import com.sun.source.tree.VariableTree;
import com.sun.source.tree.WhileLoopTree;
import com.sun.source.util.JavacTask;
import com.sun.source.util.TreePath;
import com.sun.source.util.TreePathScanner;
import com.sun.source.util.Trees;
import java.io.IOException;
import java.nio.file.Path;
import java.util.ArrayList;
import java.util.List;
import java.util.Map;
import java.util.Set;
import java.util.TreeMap;
import java.util.TreeSet;
import javax.lang.model.element.Element;
import javax.lang.model.element.Modifier;
import javax.tools.JavaCompiler;
import javax.tools.StandardJavaFileManager;
import javax.tools.ToolProvider;

/** The rules of LANGUAGE.md that the compiler can see: what the source uses, who calls whom, how deep. */
public final class LanguageTreeTests {
    private static final Desk DESK = new Desk("source");
    private static final Set<Tree.Kind> RULED_OUT = Set.of(Tree.Kind.THROW, Tree.Kind.TRY, Tree.Kind.CATCH, Tree.Kind.ASSERT,
        Tree.Kind.SYNCHRONIZED, Tree.Kind.LAMBDA_EXPRESSION, Tree.Kind.MEMBER_REFERENCE);
    private static final Set<String> TYPES = Set.of("int", "long", "short", "byte", "char", "boolean", "double", "float",
        "String", "StringBuilder", "Integer", "ArrayList", "List", "Iterator", "Iterable", "Comparable");
    private static final String LIBRARY = "String\\.(length|charAt|isEmpty|equals|indexOf|substring|toCharArray)"
        + "|StringBuilder\\.(append|charAt|setCharAt|setLength|deleteCharAt|reverse|length|toString)"
        + "|(ArrayList|List)\\.(add|get|set|remove|size|isEmpty|clear|of)|(Integer|Long|Math)\\.\\w*(?<!Exact)"
        + "|System\\.arraycopy|Arrays\\.(copyOf|copyOfRange|fill)|Array\\.clone|Object\\.<init>";
    /** A call of the face, and eight deep below it. */
    private static final int DEEPEST = 9;
    /** "Some sixty" lines. */
    private static final int LONGEST = 70;
    private static final Map<String, Set<String>> CALLS = new TreeMap<>();
    private static final Set<String> PRIVATE = new TreeSet<>();

    public static void main(String[] args) throws IOException {
        JavaCompiler compiler = ToolProvider.getSystemJavaCompiler();
        try (StandardJavaFileManager files = compiler.getStandardFileManager(null, null, null)) {
            JavacTask task = (JavacTask) compiler.getTask(null, files, null, List.of("-proc:none"), null,
                files.getJavaFileObjects(Path.of("src/main/java/AllIsWell.java")));
            Iterable<? extends CompilationUnitTree> units = task.parse();
            task.analyze();
            for (CompilationUnitTree unit : units) {
                DESK.due("rule 0: a package line", unit.getPackageName() != null, false);
                new Reader(Trees.instance(task), unit).scan(unit, null);
            }
        }
        DESK.due("methods were found", CALLS.size() >= 34, true);
        for (String method : CALLS.keySet()) {
            if (reach(method).contains(method)) {
                DESK.due("rule 8: " + method + " calls itself and is private", PRIVATE.contains(method), true);
            }
            int deep = depth(method);
            DESK.due("rule 11: " + method + " goes " + deep + " deep", deep <= DEEPEST, true);
        }
        Desk.close("LanguageTreeTests");
    }

    /** All methods that a method calls, by others too. */
    private static Set<String> reach(String method) {
        Set<String> reached = new TreeSet<>();
        List<String> open = new ArrayList<>(callsOf(method));
        while (!open.isEmpty()) {
            String next = open.remove(open.size() - 1);
            if (reached.add(next)) {
                open.addAll(callsOf(next));
            }
        }
        return reached;
    }

    private static Set<String> callsOf(String method) {
        return CALLS.getOrDefault(method, Set.of());
    }

    /** How many methods stand open at once at the most; those that call one another in a ring count as one. */
    private static int depth(String method) {
        Set<String> ring = new TreeSet<>();
        ring.add(method);
        for (String other : reach(method)) {
            if (reach(other).contains(method)) {
                ring.add(other);
            }
        }
        int deepest = 0;
        for (String one : ring) {
            for (String called : callsOf(one)) {
                if (!ring.contains(called)) {
                    deepest = Math.max(deepest, depth(called));
                }
            }
        }
        return deepest + 1;
    }

    private static final class Reader extends TreePathScanner<Void, Void> {
        private final Trees trees;
        private final CompilationUnitTree unit;
        private final Set<String> types = new TreeSet<>(TYPES);
        private String method = "";

        Reader(Trees trees, CompilationUnitTree unit) {
            this.trees = trees;
            this.unit = unit;
            for (Class<?> c : AllIsWell.class.getDeclaredClasses()) {
                types.add(c.getSimpleName());
            }
        }

        @Override
        public Void scan(Tree tree, Void none) {
            if (tree != null) {
                DESK.due("rules 2, 6: " + tree.getKind() + " in " + method, RULED_OUT.contains(tree.getKind()), false);
            }
            return super.scan(tree, none);
        }

        @Override
        public Void visitImport(ImportTree tree, Void none) {
            String name = tree.getQualifiedIdentifier().toString();
            DESK.due("rule 4: import of " + name, name.startsWith("java.util."), true);
            return super.visitImport(tree, none);
        }

        @Override
        public Void visitClass(ClassTree tree, Void none) {
            DESK.due("rule 2: class " + tree.getSimpleName() + " in a method", method.isEmpty(), true);
            for (Tree member : tree.getMembers()) {
                DESK.due("rule 5: a block in class " + tree.getSimpleName(), member instanceof BlockTree b && b.isStatic(), false);
            }
            return super.visitClass(tree, none);
        }

        @Override
        public Void visitVariable(VariableTree tree, Void none) {
            if (tree.getType() != null) {
                String type = tree.getType().toString().replaceAll("[\\[<].*", "");
                DESK.due("rule 3: type " + type + " of " + tree.getName(), types.contains(type) || type.length() == 1, true);
            }
            return super.visitVariable(tree, none);
        }

        @Override
        public Void visitMethod(MethodTree tree, Void none) {
            Element element = trees.getElement(getCurrentPath());
            method = nameOf(element);
            CALLS.putIfAbsent(method, new TreeSet<>());
            if (element.getModifiers().contains(Modifier.PRIVATE)) {
                PRIVATE.add(method);
            }
            long first = trees.getSourcePositions().getStartPosition(unit, tree);
            long last = trees.getSourcePositions().getEndPosition(unit, tree);
            if (last > first) {
                long lines = unit.getLineMap().getLineNumber(last) - unit.getLineMap().getLineNumber(first) + 1;
                DESK.due("rule 11: " + method + " has " + lines + " lines", lines <= LONGEST, true);
            }
            DESK.due("rule 11: parameters of " + method, tree.getParameters().size() <= 7, true);
            super.visitMethod(tree, none);
            method = "";
            return null;
        }

        @Override
        public Void visitMethodInvocation(MethodInvocationTree tree, Void none) {
            Element called = trees.getElement(new TreePath(getCurrentPath(), tree.getMethodSelect()));
            String name = nameOf(called);
            if (called.getEnclosingElement().toString().startsWith("AllIsWell")) {
                CALLS.computeIfAbsent(method, m -> new TreeSet<>()).add(name);
            } else {
                DESK.due("rule 4: " + name + " in " + method + " is listed", name.matches(LIBRARY), true);
            }
            return super.visitMethodInvocation(tree, none);
        }

        @Override
        public Void visitNewClass(NewClassTree tree, Void none) {
            DESK.due("rule 2: a class without a name in " + method, tree.getClassBody() != null, false);
            return super.visitNewClass(tree, none);
        }

        @Override
        public Void visitWhileLoop(WhileLoopTree tree, Void none) {
            bound(tree.getCondition());
            return super.visitWhileLoop(tree, none);
        }

        @Override
        public Void visitForLoop(ForLoopTree tree, Void none) {
            bound(tree.getCondition());
            return super.visitForLoop(tree, none);
        }

        private void bound(ExpressionTree condition) {
            boolean endless = condition == null || condition.toString().equals("(true)") || condition instanceof LiteralTree;
            DESK.due("rule 9: a loop in " + method + " without a bound", endless, false);
        }

        @Override
        public Void visitBinary(BinaryTree tree, Void none) {
            Tree.Kind kind = tree.getKind();
            if (kind == Tree.Kind.EQUAL_TO || kind == Tree.Kind.NOT_EQUAL_TO || kind == Tree.Kind.PLUS) {
                String left = String.valueOf(trees.getTypeMirror(new TreePath(getCurrentPath(), tree.getLeftOperand())));
                DESK.due("rules 6, 10: " + tree + " is of texts", left.equals("java.lang.String"), false);
            }
            return super.visitBinary(tree, none);
        }

        @Override
        public Void visitLiteral(LiteralTree tree, Void none) {
            if (tree.getValue() instanceof String s) {
                DESK.due("rule 4: signs of \"" + s + "\"", s.chars().allMatch(c -> c >= 1 && c <= 127), true);
            }
            return super.visitLiteral(tree, none);
        }

        private static String nameOf(Element method) {
            return method.getEnclosingElement().getSimpleName() + "." + method.getSimpleName();
        }
    }
}
