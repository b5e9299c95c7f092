import com.sun.source.tree.AssignmentTree;
import com.sun.source.tree.BinaryTree;
import com.sun.source.tree.CompilationUnitTree;
import com.sun.source.tree.CompoundAssignmentTree;
import com.sun.source.tree.DoWhileLoopTree;
import com.sun.source.tree.ExpressionTree;
import com.sun.source.tree.ForLoopTree;
import com.sun.source.tree.MethodInvocationTree;
import com.sun.source.tree.MethodTree;
import com.sun.source.tree.StatementTree;
import com.sun.source.tree.Tree;
import com.sun.source.tree.UnaryTree;
import com.sun.source.tree.VariableTree;
import com.sun.source.tree.WhileLoopTree;
import com.sun.source.util.JavacTask;
import com.sun.source.util.TreePathScanner;
import com.sun.source.util.TreeScanner;
import com.sun.source.util.Trees;
import java.nio.file.Path;
import java.util.ArrayList;
import java.util.HashMap;
import java.util.List;
import java.util.Map;
import java.util.Set;
import java.util.TreeSet;
import javax.lang.model.element.Element;
import javax.lang.model.element.ExecutableElement;
import javax.lang.model.element.Modifier;
import javax.lang.model.element.TypeElement;
import javax.lang.model.type.TypeMirror;
import javax.tools.JavaCompiler;
import javax.tools.StandardJavaFileManager;
import javax.tools.ToolProvider;

/** The rules of LANGUAGE.md that need the class as javac reads it: types, library, divisors, calls, loops. */
final class RulesTest extends TreePathScanner<Void, Void> {
    private static final int MOST_DEEP = 8;
    private static final Set<String> NUMBERS = Set.of("int", "long", "boolean", "int[]", "boolean[]", "void");
    private static final Set<String> LIBRARY = Set.of("java.lang.System.arraycopy", "java.util.Arrays.fill",
        "java.lang.Integer.bitCount", "java.lang.Integer.numberOfTrailingZeros", "java.lang.Math.max", "java.lang.Math.abs");

    private final Trees trees;
    private final Map<String, Set<String>> calls = new HashMap<>();
    private final Map<String, MethodTree> methods = new HashMap<>();
    private String at = "";

    private RulesTest(Trees trees) {
        this.trees = trees;
    }

    private static void holds(String what, boolean so) {
        Check.due(what, so ? 1 : 0, 1);
    }

    private static String nameOf(ExecutableElement method) {
        return ((TypeElement) method.getEnclosingElement()).getQualifiedName() + "." + method.getSimpleName();
    }

    @Override
    public Void visitMethod(MethodTree tree, Void nothing) {
        String outer = at;
        at = nameOf((ExecutableElement) trees.getElement(getCurrentPath()));
        holds("no two methods of a class bear the name " + at, methods.put(at, tree) == null);
        calls.put(at, new TreeSet<>());
        super.visitMethod(tree, nothing);
        at = outer;
        return null;
    }

    /** Rule 3: no call here needs more than numbers, rows of them, and classes of its own. */
    @Override
    public Void visitVariable(VariableTree tree, Void nothing) {
        TypeMirror type = trees.getElement(getCurrentPath()).asType();
        String name = type.toString();
        holds(at + ": the type " + name, NUMBERS.contains(name) || name.startsWith("NestFinder."));
        return super.visitVariable(tree, nothing);
    }

    /** Rule 4; those of the class itself are told for rules 8 and 11. */
    @Override
    public Void visitMethodInvocation(MethodInvocationTree tree, Void nothing) {
        Element called = trees.getElement(getCurrentPath());
        String name = nameOf((ExecutableElement) called);
        if (name.startsWith("NestFinder.")) {
            calls.computeIfAbsent(at, a -> new TreeSet<>()).add(name);
        } else if (called.getSimpleName().contentEquals("<init>")) {
            holds(at + ": " + name, name.equals("java.lang.Object.<init>"));
        } else {
            holds(at + ": " + name + " is of the library that is left", LIBRARY.contains(name));
        }
        return super.visitMethodInvocation(tree, nothing);
    }

    /** Rule 7: a divisor is a constant, or its method asks whether it is 0. */
    @Override
    public Void visitBinary(BinaryTree tree, Void nothing) {
        if (tree.getKind() == Tree.Kind.DIVIDE || tree.getKind() == Tree.Kind.REMAINDER) {
            String divisor = tree.getRightOperand().toString();
            holds(at + ": the divisor " + divisor, divisor.matches("[1-9][0-9]*|[A-Z_]+") || asksForZero(divisor));
        }
        return super.visitBinary(tree, nothing);
    }

    private boolean asksForZero(String divisor) {
        String body = methods.get(at).toString();
        return body.contains(divisor + " == 0") || body.contains(divisor + " != 0");
    }

    @Override
    public Void visitCompoundAssignment(CompoundAssignmentTree tree, Void nothing) {
        if (tree.getKind() == Tree.Kind.DIVIDE_ASSIGNMENT || tree.getKind() == Tree.Kind.REMAINDER_ASSIGNMENT) {
            holds(at + ": " + tree, tree.getExpression().toString().matches("[1-9][0-9]*"));
        }
        return super.visitCompoundAssignment(tree, nothing);
    }

    @Override
    public Void visitWhileLoop(WhileLoopTree tree, Void nothing) {
        holds(at + ": a while has no counter of its own", false);
        return super.visitWhileLoop(tree, nothing);
    }

    @Override
    public Void visitDoWhileLoop(DoWhileLoopTree tree, Void nothing) {
        holds(at + ": a do has no counter of its own", false);
        return super.visitDoWhileLoop(tree, nothing);
    }

    /** Rule 9: a counter that rises below a bound or falls to 0, by one each time, and is changed nowhere else. */
    @Override
    public Void visitForLoop(ForLoopTree tree, Void nothing) {
        boolean counts = tree.getInitializer().size() == 1 && tree.getInitializer().get(0) instanceof VariableTree
            && tree.getUpdate().size() == 1;
        holds(at + ": one counter in " + head(tree), counts);
        if (counts) {
            String counter = ((VariableTree) tree.getInitializer().get(0)).getName().toString();
            String step = tree.getUpdate().get(0).getExpression().toString();
            boolean rises = step.equals(counter + "++") && asks(tree.getCondition(), Tree.Kind.LESS_THAN, counter);
            boolean falls = step.equals(counter + "--") && asks(tree.getCondition(), Tree.Kind.GREATER_THAN_EQUAL, counter);
            holds(at + ": an end can be seen in " + head(tree), rises || falls);
            holds(at + ": the counter is left alone in " + head(tree), !isChangedIn(tree.getStatement(), counter));
        }
        return super.visitForLoop(tree, nothing);
    }

    private static String head(ForLoopTree tree) {
        return tree.getInitializer() + " " + tree.getCondition() + " " + tree.getUpdate();
    }

    /** Whether the condition, or a part of it without which it can not hold, asks so of the counter. */
    private static boolean asks(ExpressionTree condition, Tree.Kind kind, String counter) {
        if (!(condition instanceof BinaryTree)) {
            return false;
        }
        BinaryTree both = (BinaryTree) condition;
        if (both.getKind() == Tree.Kind.CONDITIONAL_AND) {
            return asks(both.getLeftOperand(), kind, counter) || asks(both.getRightOperand(), kind, counter);
        }
        return both.getKind() == kind && both.getLeftOperand().toString().equals(counter);
    }

    private static boolean isChangedIn(StatementTree body, String counter) {
        boolean[] found = {false};
        new TreeScanner<Void, Void>() {
            @Override
            public Void visitAssignment(AssignmentTree tree, Void nothing) {
                found[0] |= tree.getVariable().toString().equals(counter);
                return super.visitAssignment(tree, nothing);
            }

            @Override
            public Void visitCompoundAssignment(CompoundAssignmentTree tree, Void nothing) {
                found[0] |= tree.getVariable().toString().equals(counter);
                return super.visitCompoundAssignment(tree, nothing);
            }

            @Override
            public Void visitUnary(UnaryTree tree, Void nothing) {
                boolean steps = tree.toString().contains("++") || tree.toString().contains("--");
                found[0] |= steps && tree.getExpression().toString().equals(counter);
                return super.visitUnary(tree, nothing);
            }
        }.scan(body, null);
        return found[0];
    }

    /** Rule 8: what calls itself is private and static, carries its level, and looks at it first. */
    private void recursion() {
        for (String name : methods.keySet()) {
            if (calls.get(name).contains(name)) {
                MethodTree tree = methods.get(name);
                Set<Modifier> flags = tree.getModifiers().getFlags();
                holds(name + " is private and static", flags.contains(Modifier.PRIVATE) && flags.contains(Modifier.STATIC));
                List<? extends VariableTree> told = tree.getParameters();
                String last = told.get(told.size() - 1).getName().toString();
                String first = tree.getBody().getStatements().get(0).toString();
                holds(name + " refuses what goes deeper", first.startsWith("if (" + last + " >= ") && first.contains("return"));
            }
        }
    }

    /** Rules 8 and 11: no method comes back to itself by another one, and calls go eight deep at most. */
    private int deepFrom(String name, List<String> open) {
        holds(open + " comes back to " + name, !open.contains(name));
        if (open.contains(name)) {
            return 0;
        }
        List<String> now = new ArrayList<>(open);
        now.add(name);
        int deepest = 0;
        for (String called : calls.getOrDefault(name, Set.of())) {
            if (!called.equals(name)) {
                deepest = Math.max(deepest, deepFrom(called, now));
            }
        }
        return deepest + 1;
    }

    private void depth() {
        for (String name : methods.keySet()) {
            holds(name + " calls eight deep at most", deepFrom(name, List.of()) <= MOST_DEEP);
        }
    }

    public static void main(String[] args) throws Exception {
        Path file = Path.of(args.length > 0 ? args[0] : ".").resolve("src/main/java/NestFinder.java");
        JavaCompiler javac = ToolProvider.getSystemJavaCompiler();
        try (StandardJavaFileManager files = javac.getStandardFileManager(null, null, null)) {
            JavacTask task = (JavacTask) javac.getTask(null, files, null, List.of("-proc:none"), null, files.getJavaFileObjects(file));
            Iterable<? extends CompilationUnitTree> units = task.parse();
            task.analyze();
            RulesTest rules = new RulesTest(Trees.instance(task));
            for (CompilationUnitTree unit : units) {
                rules.scan(unit, null);
            }
            holds("all methods were read", rules.methods.size() > 50);
            rules.recursion();
            rules.depth();
        }
        Check.end();
    }
}
