import com.sun.source.tree.ArrayAccessTree;
import com.sun.source.tree.BinaryTree;
import com.sun.source.tree.ClassTree;
import com.sun.source.tree.CompilationUnitTree;
import com.sun.source.tree.DoWhileLoopTree;
import com.sun.source.tree.ExpressionTree;
import com.sun.source.tree.ForLoopTree;
import com.sun.source.tree.MethodInvocationTree;
import com.sun.source.tree.MethodTree;
import com.sun.source.tree.NewArrayTree;
import com.sun.source.tree.NewClassTree;
import com.sun.source.tree.ParenthesizedTree;
import com.sun.source.tree.ThrowTree;
import com.sun.source.tree.Tree;
import com.sun.source.tree.VariableTree;
import com.sun.source.tree.WhileLoopTree;
import com.sun.source.util.JavacTask;
import com.sun.source.util.TreePath;
import com.sun.source.util.TreePathScanner;
import com.sun.source.util.Trees;
import java.nio.file.Path;
import java.util.EnumSet;
import java.util.LinkedHashMap;
import java.util.LinkedHashSet;
import java.util.List;
import java.util.Map;
import java.util.Set;
import javax.lang.model.element.Element;
import javax.lang.model.element.Modifier;
import javax.tools.JavaCompiler;
import javax.tools.StandardJavaFileManager;
import javax.tools.ToolProvider;

/**
 * SignRanks.java keeps to ../shared/LANGUAGE.md, in the plain form that it has: no library, no catch,
 * no recursion, and nothing made by a call but an exception. What is wrong is told with the rule's number;
 * rule 1 is FaceTest's, and what a run makes (rule 12) is RoomTest's too.
 */
public final class LanguageTest extends TreePathScanner<Void, Void> {
    private static final String SOURCE = "src/main/java/SignRanks.java";
    private static final int MOST_CALLS_DEEP = 8;
    private static final int MOST_LINES = 60;
    private static final int MOST_PARAMETERS = 7;
    private static final int MOST_CLASSES = 12;
    private static final int MOST_FIELDS = 20;

    /** Some of these the rules allow; the class does without them, and so without what they ask for. */
    private static final Set<Tree.Kind> RULED_OUT = EnumSet.of(
            Tree.Kind.TRY, Tree.Kind.CATCH, Tree.Kind.LAMBDA_EXPRESSION, Tree.Kind.MEMBER_REFERENCE,
            Tree.Kind.SYNCHRONIZED, Tree.Kind.ASSERT, Tree.Kind.INSTANCE_OF, Tree.Kind.TYPE_CAST,
            Tree.Kind.IMPORT, Tree.Kind.PACKAGE, Tree.Kind.STRING_LITERAL, Tree.Kind.NULL_LITERAL,
            Tree.Kind.ENHANCED_FOR_LOOP, Tree.Kind.SWITCH_EXPRESSION, Tree.Kind.ANNOTATION);
    private static final Set<Tree.Kind> UP = EnumSet.of(Tree.Kind.LESS_THAN, Tree.Kind.LESS_THAN_EQUAL);
    private static final Set<Tree.Kind> DOWN = EnumSet.of(Tree.Kind.GREATER_THAN, Tree.Kind.GREATER_THAN_EQUAL);
    private static final Set<String> NUMBERS = Set.of("int", "long", "boolean", "double", "int[]");
    private static final Set<String> OWN_CLASSES = Set.of("Row", "Bag", "SmoothTable", "Text", "Saves");
    private static final Set<String> EXCEPTIONS = Set.of(
            "IllegalStateException", "IllegalArgumentException", "IndexOutOfBoundsException");

    private final Trees trees;
    private final CompilationUnitTree unit;
    private final Map<Element, Set<Element>> calls = new LinkedHashMap<>();
    private int classes = 0;

    private LanguageTest(Trees trees, CompilationUnitTree unit) {
        this.trees = trees;
        this.unit = unit;
    }

    private String at(Tree tree) {
        long start = trees.getSourcePositions().getStartPosition(unit, tree);
        return "line " + unit.getLineMap().getLineNumber(start) + ": ";
    }

    private <T extends Tree> T around(Class<T> kind) {
        for (TreePath path = getCurrentPath(); path != null; path = path.getParentPath()) {
            if (kind.isInstance(path.getLeaf())) {
                return kind.cast(path.getLeaf());
            }
        }
        return null;
    }

    private Tree above() {
        return getCurrentPath().getParentPath().getLeaf();
    }

    @Override
    public Void scan(Tree tree, Void unused) {
        if (tree != null && RULED_OUT.contains(tree.getKind())) {
            boolean narrowed = tree.getKind() == Tree.Kind.TYPE_CAST
                    && Set.of("int", "long", "double").contains(tree.toString().replaceAll("^\\((\\w+)\\).*", "$1"));
            boolean told = tree.getKind() == Tree.Kind.STRING_LITERAL
                    && getCurrentPath().getLeaf() instanceof NewClassTree;
            Check.holds(at(tree) + "rules 3 to 10: " + tree.getKind() + " " + tree, narrowed || told);
        }
        return super.scan(tree, unused);
    }

    @Override
    public Void visitClass(ClassTree tree, Void unused) {
        classes++;
        Check.holds(at(tree) + "rule 2: a class of another kind", tree.getKind() == Tree.Kind.CLASS);
        Check.holds(at(tree) + "rule 2: a class below another one", tree.getExtendsClause() == null);
        Check.holds(at(tree) + "rule 12: a class whose methods could be overridden",
                tree.getModifiers().getFlags().contains(Modifier.FINAL));
        int fields = 0;
        for (Tree member : tree.getMembers()) {
            Check.holds(at(member) + "rule 5: an initialiser block", member.getKind() != Tree.Kind.BLOCK);
            if (member instanceof VariableTree field) {
                fields += checkField(field) ? 0 : 1;
            }
        }
        Check.holds(at(tree) + "rule 11: " + fields + " fields", fields <= MOST_FIELDS);
        return super.visitClass(tree, unused);
    }

    /** Tells if the field is a constant. */
    private boolean checkField(VariableTree field) {
        Set<Modifier> modifiers = field.getModifiers().getFlags();
        boolean constant = modifiers.contains(Modifier.STATIC);
        boolean settled = modifiers.contains(Modifier.FINAL);
        String type = field.getType().toString();
        Check.holds(at(field) + "rule 5: static and not final", !constant || settled);
        Check.holds(at(field) + "rule 5: a constant that is not written out",
                !constant || NUMBERS.contains(type) && isWrittenOut(field.getInitializer()));
        Check.holds(at(field) + "rule 7: a reference that may change or be null",
                type.equals("int") || settled && field.getInitializer() != null);
        return constant;
    }

    /** Numbers, sums and products of constants, or a row of numbers: nothing is called or made with "new". */
    private static boolean isWrittenOut(ExpressionTree value) {
        String text = value.toString();
        boolean settled = !text.contains("(") && !text.contains("new ");
        return value instanceof NewArrayTree row ? row.getType() == null : settled;
    }

    @Override
    public Void visitVariable(VariableTree tree, Void unused) {
        String type = tree.getType().toString();
        Check.holds(at(tree) + "rule 3: the type " + type, NUMBERS.contains(type) || OWN_CLASSES.contains(type));
        return super.visitVariable(tree, unused);
    }

    @Override
    public Void visitMethod(MethodTree tree, Void unused) {
        long first = unit.getLineMap().getLineNumber(trees.getSourcePositions().getStartPosition(unit, tree));
        long last = unit.getLineMap().getLineNumber(trees.getSourcePositions().getEndPosition(unit, tree));
        Check.holds(at(tree) + "rule 11: a long method", last - first < MOST_LINES);
        Check.holds(at(tree) + "rule 11: many parameters", tree.getParameters().size() <= MOST_PARAMETERS);
        calls.put(trees.getElement(getCurrentPath()), new LinkedHashSet<>());
        return super.visitMethod(tree, unused);
    }

    @Override
    public Void visitMethodInvocation(MethodInvocationTree tree, Void unused) {
        Element called = trees.getElement(getCurrentPath());
        boolean constructed = called.getSimpleName().contentEquals("<init>");
        if (!constructed) {
            Check.holds(at(tree) + "rule 4: a call of a library: " + tree, own(called));
            calls.get(trees.getElement(trees.getPath(unit, around(MethodTree.class)))).add(called);
        }
        return super.visitMethodInvocation(tree, unused);
    }

    private static boolean own(Element called) {
        return called.getEnclosingElement().toString().startsWith("SignRanks");
    }

    @Override
    public Void visitNewClass(NewClassTree tree, Void unused) {
        boolean thrown = above().getKind() == Tree.Kind.THROW && EXCEPTIONS.contains(tree.getIdentifier().toString());
        Check.holds(at(tree) + "rule 12: made by a call: " + tree, thrown || around(MethodTree.class) == null);
        return super.visitNewClass(tree, unused);
    }

    @Override
    public Void visitThrow(ThrowTree tree, Void unused) {
        boolean made = tree.getExpression().getKind() == Tree.Kind.NEW_CLASS;
        boolean inMethod = around(MethodTree.class) != null && around(MethodTree.class).getReturnType() != null;
        Check.holds(at(tree) + "rule 6: thrown in a constructor, or not made there: " + tree, made && inMethod);
        return super.visitThrow(tree, unused);
    }

    @Override
    public Void visitNewArray(NewArrayTree tree, Void unused) {
        Check.holds(at(tree) + "rule 12: made by a call: " + tree, around(MethodTree.class) == null);
        return super.visitNewArray(tree, unused);
    }

    @Override
    public Void visitBinary(BinaryTree tree, Void unused) {
        boolean divides = tree.getKind() == Tree.Kind.DIVIDE || tree.getKind() == Tree.Kind.REMAINDER;
        boolean settled = tree.getRightOperand().getKind() == Tree.Kind.INT_LITERAL;
        boolean tested = above().getKind() == Tree.Kind.CONDITIONAL_EXPRESSION
                && above().toString().startsWith("(" + tree.getRightOperand() + " > 0)")
                || above().toString().startsWith(tree.getRightOperand() + " > 0 ?");
        Check.holds(at(tree) + "rule 7: a divisor without a test: " + tree, !divides || settled || tested);
        return super.visitBinary(tree, unused);
    }

    @Override
    public Void visitArrayAccess(ArrayAccessTree tree, Void unused) {
        MethodTree method = around(MethodTree.class);
        Check.holds(at(tree) + "rule 7: an index without a bound near it: " + tree,
                method != null && method.getBody().toString().contains("<"));
        return super.visitArrayAccess(tree, unused);
    }

    @Override
    public Void visitForLoop(ForLoopTree tree, Void unused) {
        checkEnd(tree, tree.getCondition(), tree.getUpdate().toString());
        return super.visitForLoop(tree, unused);
    }

    @Override
    public Void visitWhileLoop(WhileLoopTree tree, Void unused) {
        ExpressionTree condition = ((ParenthesizedTree) tree.getCondition()).getExpression();
        checkEnd(tree, condition, tree.getStatement().toString());
        return super.visitWhileLoop(tree, unused);
    }

    @Override
    public Void visitDoWhileLoop(DoWhileLoopTree tree, Void unused) {
        Check.holds(at(tree) + "rule 9: a loop whose end comes last", false);
        return super.visitDoWhileLoop(tree, unused);
    }

    private void checkEnd(Tree loop, ExpressionTree condition, String steps) {
        Check.holds(at(loop) + "rule 9: a loop without an end to be seen", isBounded(condition, steps));
    }

    /** A counter against a bound, or several conditions that all have to hold, one of them such. */
    private static boolean isBounded(ExpressionTree condition, String steps) {
        if (!(condition instanceof BinaryTree binary)) {
            return false;
        }
        if (condition.getKind() == Tree.Kind.CONDITIONAL_AND) {
            return isBounded(binary.getLeftOperand(), steps) || isBounded(binary.getRightOperand(), steps);
        }
        ExpressionTree counter = binary.getLeftOperand();
        return UP.contains(condition.getKind()) && steps.contains(counter + "++")
                || DOWN.contains(condition.getKind()) && steps.contains(counter + "--");
    }

    /** How many calls stand open at once at most, from this one on; a call that comes round again is too deep. */
    private int deep(Element method, int open) {
        if (open > MOST_CALLS_DEEP) {
            return open;
        }
        int most = open;
        for (Element called : calls.getOrDefault(method, Set.of())) {
            most = Math.max(most, deep(called, open + 1));
        }
        return most;
    }

    private void checkDepths() {
        for (Element method : calls.keySet()) {
            int deep = deep(method, 1);
            Check.holds("rules 8 and 11: " + method + " goes " + deep + " calls deep", deep <= MOST_CALLS_DEEP);
        }
        Check.holds("rule 11: " + classes + " classes", classes <= MOST_CLASSES);
    }

    public static void main(String[] args) throws Exception {
        JavaCompiler compiler = ToolProvider.getSystemJavaCompiler();
        try (StandardJavaFileManager files = compiler.getStandardFileManager(null, null, null)) {
            List<String> options = List.of("-proc:none");
            JavacTask task = (JavacTask) compiler.getTask(
                    null, files, null, options, null, files.getJavaFileObjects(Path.of(SOURCE)));
            CompilationUnitTree unit = task.parse().iterator().next();
            task.analyze();
            LanguageTest test = new LanguageTest(Trees.instance(task), unit);
            test.scan(unit, null);
            test.checkDepths();
        }
        Check.end("LanguageTest");
    }
}
