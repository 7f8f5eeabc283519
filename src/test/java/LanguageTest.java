import static com.sun.source.tree.Tree.Kind.*;

import com.sun.source.tree.ArrayAccessTree;
import com.sun.source.tree.ArrayTypeTree;
import com.sun.source.tree.BinaryTree;
import com.sun.source.tree.ClassTree;
import com.sun.source.tree.CompilationUnitTree;
import com.sun.source.tree.ExpressionTree;
import com.sun.source.tree.ForLoopTree;
import com.sun.source.tree.IdentifierTree;
import com.sun.source.tree.MethodInvocationTree;
import com.sun.source.tree.MethodTree;
import com.sun.source.tree.NewArrayTree;
import com.sun.source.tree.StatementTree;
import com.sun.source.tree.Tree;
import com.sun.source.tree.VariableTree;
import com.sun.source.util.JavacTask;
import com.sun.source.util.TreePath;
import com.sun.source.util.TreePathScanner;
import com.sun.source.util.Trees;
import java.nio.file.Path;
import java.util.EnumSet;
import java.util.HashSet;
import java.util.Map;
import java.util.Set;
import java.util.TreeMap;
import java.util.TreeSet;
import javax.lang.model.element.Modifier;
import javax.lang.model.element.VariableElement;
import javax.lang.model.type.TypeKind;
import javax.tools.JavaCompiler;
import javax.tools.StandardJavaFileManager;
import javax.tools.ToolProvider;

/**
 * The rules of LANGUAGE.md that can be seen in the source; FaceTest has the rest of rules 1 and 5.
 * It is narrower than they are where the class does not need the room, and it cannot see rule 7.
 */
public final class LanguageTest extends TreePathScanner<Void, Void> {
    private static final Path SOURCE = Path.of("src/main/java/RankMetricCode.java");
    private static final int MOST_PARAMETERS = 7;
    private static final int MOST_LINES = 60;
    private static final int DEEPEST_CALL = 6;
    private static final int MOST_FIELDS = 40;

    // What is not here is refused: so are library classes, strings, null, exceptions, lambdas and while.
    private static final Set<Tree.Kind> ALLOWED = EnumSet.of(
            COMPILATION_UNIT, CLASS, MODIFIERS, VARIABLE, METHOD, BLOCK, PRIMITIVE_TYPE, ARRAY_TYPE,
            IDENTIFIER, INT_LITERAL, BOOLEAN_LITERAL, NEW_ARRAY, ARRAY_ACCESS, METHOD_INVOCATION,
            PARENTHESIZED, EXPRESSION_STATEMENT, RETURN, IF, FOR_LOOP, BREAK, CONTINUE,
            CONDITIONAL_EXPRESSION, CONDITIONAL_AND, CONDITIONAL_OR, LOGICAL_COMPLEMENT,
            EQUAL_TO, NOT_EQUAL_TO, LESS_THAN, LESS_THAN_EQUAL, GREATER_THAN, GREATER_THAN_EQUAL,
            PLUS, MINUS, MULTIPLY, DIVIDE, REMAINDER, UNARY_MINUS, BITWISE_COMPLEMENT,
            AND, OR, XOR, LEFT_SHIFT, RIGHT_SHIFT, UNSIGNED_RIGHT_SHIFT,
            ASSIGNMENT, PLUS_ASSIGNMENT, MINUS_ASSIGNMENT, AND_ASSIGNMENT, OR_ASSIGNMENT, XOR_ASSIGNMENT,
            LEFT_SHIFT_ASSIGNMENT, RIGHT_SHIFT_ASSIGNMENT, UNSIGNED_RIGHT_SHIFT_ASSIGNMENT,
            POSTFIX_INCREMENT, POSTFIX_DECREMENT, PREFIX_INCREMENT, PREFIX_DECREMENT);

    private static final Set<TypeKind> NUMBERS = EnumSet.of(
            TypeKind.INT, TypeKind.LONG, TypeKind.SHORT, TypeKind.BYTE, TypeKind.CHAR, TypeKind.BOOLEAN);

    private final Trees trees;
    private final CompilationUnitTree unit;
    private final Set<String> methods = new HashSet<>();
    private final Set<String> arrays = new HashSet<>();
    private final Map<String, Set<String>> callsOf = new TreeMap<>();
    private String method = "";

    private LanguageTest(Trees trees, CompilationUnitTree unit) {
        this.trees = trees;
        this.unit = unit;
    }

    public static void main(String[] args) throws Exception {
        JavaCompiler compiler = ToolProvider.getSystemJavaCompiler();
        try (StandardJavaFileManager files = compiler.getStandardFileManager(null, null, null)) {
            JavacTask task = (JavacTask) compiler.getTask(
                    null, files, null, null, null, files.getJavaFileObjects(SOURCE));
            CompilationUnitTree unit = task.parse().iterator().next();
            task.analyze();
            new LanguageTest(Trees.instance(task), unit).read();
        }
        Check.end();
    }

    private void read() {
        Check.due("rule 1: one class in the file", unit.getTypeDecls().size(), 1);
        Check.due("rule 1: a package line", unit.getPackageName() != null, false);
        Check.due("rule 3: imports", unit.getImports().size(), 0);
        ClassTree type = (ClassTree) unit.getTypeDecls().get(0);
        members(type);
        scan(new TreePath(unit), null);
        for (String name : callsOf.keySet()) {
            Check.due("rule 8: " + name + " calls itself by some way", reached(name).contains(name), false);
        }
        for (String name : callsOf.keySet()) {
            Check.due("rule 10: the calls from " + name + " are not too deep", depth(name) <= DEEPEST_CALL, true);
        }
    }

    private void members(ClassTree type) {
        int fields = 0;
        for (Tree member : type.getMembers()) {
            boolean allowed = member.getKind() == METHOD || member.getKind() == VARIABLE;
            Check.due("rule 1, line " + line(member) + ": a field or a method", allowed, true);
            if (member instanceof MethodTree one) {
                methods.add(one.getName().toString());
            } else if (member instanceof VariableTree field) {
                fields += isStatic(field) ? 0 : 1;
                oneField(field);
            }
        }
        Check.due("rule 10: not too many fields", fields <= MOST_FIELDS, true);
    }

    private void oneField(VariableTree field) {
        if (field.getType() instanceof ArrayTypeTree) {
            arrays.add(field.getName().toString());
            boolean isFinal = field.getModifiers().getFlags().contains(Modifier.FINAL);
            Check.due("rule 4, line " + line(field) + ": no method can assign to it", isFinal, true);
            Check.due("rule 4, line " + line(field) + ": made where it is declared",
                    field.getInitializer() instanceof NewArrayTree, true);
        }
        if (isStatic(field)) {
            Check.due("rule 5, line " + line(field) + ": a compile-time constant", constant(field) != null, true);
        }
    }

    private static boolean isStatic(VariableTree field) {
        return field.getModifiers().getFlags().contains(Modifier.STATIC);
    }

    private Object constant(Tree tree) {
        TreePath path = trees.getPath(unit, tree);
        return trees.getElement(path) instanceof VariableElement named ? named.getConstantValue() : null;
    }

    private long line(Tree tree) {
        return unit.getLineMap().getLineNumber(trees.getSourcePositions().getStartPosition(unit, tree));
    }

    private long lines(Tree tree) {
        long end = trees.getSourcePositions().getEndPosition(unit, tree);
        return unit.getLineMap().getLineNumber(end) - line(tree) + 1;
    }

    @Override
    public Void scan(Tree tree, Void none) {
        if (tree != null && !isMadeByCompiler(tree)) {
            Check.due("rules 2, 3, 6, 9, line " + line(tree) + ": " + tree.getKind() + " is allowed",
                    ALLOWED.contains(tree.getKind()), true);
            typeIsNumbers(tree);
        }
        return super.scan(tree, none);
    }

    // The call super() at the start of the constructor stands in no line of the file.
    private boolean isMadeByCompiler(Tree tree) {
        return trees.getSourcePositions().getEndPosition(unit, tree) < 0;
    }

    private void typeIsNumbers(Tree tree) {
        if (tree instanceof VariableTree variable) {
            isNumbers(variable.getType(), true);
        } else if (tree instanceof MethodTree one && one.getReturnType() != null) {
            isNumbers(one.getReturnType(), false);
        }
    }

    private void isNumbers(Tree type, boolean arrayToo) {
        Tree element = arrayToo && type instanceof ArrayTypeTree array ? array.getType() : type;
        TypeKind kind = trees.getTypeMirror(trees.getPath(unit, element)).getKind();
        Check.due("rule 2, line " + line(type) + ": the type " + type,
                NUMBERS.contains(kind) || !arrayToo && kind == TypeKind.VOID, true);
    }

    @Override
    public Void visitMethod(MethodTree tree, Void none) {
        method = tree.getName().toString();
        callsOf.put(method, new TreeSet<>());
        Check.due("rule 10: parameters of " + method + " are not too many",
                tree.getParameters().size() <= MOST_PARAMETERS, true);
        Check.due("rule 10: lines of " + method + " are not too many", lines(tree) <= MOST_LINES, true);
        super.visitMethod(tree, none);
        method = "";
        return null;
    }

    @Override
    public Void visitMethodInvocation(MethodInvocationTree tree, Void none) {
        if (!isMadeByCompiler(tree)) {
            String name = tree.getMethodSelect().toString();
            Check.due("rule 3, line " + line(tree) + ": " + name + " is a method of the class",
                    methods.contains(name), true);
            Check.due("rule 10, line " + line(tree) + ": " + name + " stands inside the arguments of a call",
                    insideArguments(getCurrentPath()), false);
            Check.due("rule 4, line " + line(tree) + ": " + name + " is called by a method", method.isEmpty(), false);
            callsOf.computeIfAbsent(method, key -> new TreeSet<>()).add(name);
        }
        return super.visitMethodInvocation(tree, none);
    }

    private static boolean insideArguments(TreePath path) {
        for (TreePath up = path.getParentPath(); up != null; up = up.getParentPath()) {
            if (up.getLeaf() instanceof MethodInvocationTree) {
                return true;
            }
        }
        return false;
    }

    @Override
    public Void visitNewArray(NewArrayTree tree, Void none) {
        Check.due("rule 4, line " + line(tree) + ": made at a field", method.isEmpty(), true);
        boolean one = tree.getDimensions().size() == 1 && tree.getInitializers() == null;
        Check.due("rule 4, line " + line(tree) + ": with one length and no more", one, true);
        if (one) {
            Object length = constant(tree.getDimensions().get(0));
            Check.due("rule 4, line " + line(tree) + ": the length is a constant, 1 or more",
                    length instanceof Integer number && number >= 1, true);
        }
        return super.visitNewArray(tree, none);
    }

    @Override
    public Void visitIdentifier(IdentifierTree tree, Void none) {
        if (arrays.contains(tree.getName().toString())) {
            boolean indexed = getCurrentPath().getParentPath().getLeaf() instanceof ArrayAccessTree access
                    && access.getExpression() == tree;
            Check.due("rule 4, line " + line(tree) + ": " + tree + " is read or written by an index", indexed, true);
        }
        return super.visitIdentifier(tree, none);
    }

    @Override
    public Void visitForLoop(ForLoopTree tree, Void none) {
        boolean counts = tree.getInitializer().size() == 1 && tree.getUpdate().size() == 1
                && tree.getInitializer().get(0) instanceof VariableTree counter
                && countsTo(counter.getName().toString(), tree.getCondition(), tree.getUpdate().get(0), tree);
        Check.due("rule 8, line " + line(tree) + ": a counter against a bound", counts, true);
        return super.visitForLoop(tree, none);
    }

    private boolean countsTo(String counter, ExpressionTree condition, StatementTree update, ForLoopTree loop) {
        boolean up = update.toString().matches(counter + "\\+\\+;?");
        boolean down = update.toString().matches(counter + "--;?");
        return condition instanceof BinaryTree bound && bound.getLeftOperand().toString().equals(counter)
                && (up && bound.getKind() == LESS_THAN || down && bound.getKind() == GREATER_THAN_EQUAL)
                && isFixed(bound.getRightOperand()) && !changes(counter, loop.getStatement());
    }

    // A literal, a constant or a final field: nothing that the loop could move.
    private boolean isFixed(ExpressionTree bound) {
        return bound.getKind() == INT_LITERAL
                || trees.getElement(trees.getPath(unit, bound)) instanceof VariableElement named
                        && named.getModifiers().contains(Modifier.FINAL);
    }

    private static boolean changes(String counter, StatementTree body) {
        String name = "\\b" + counter + "\\b";
        return body.toString().matches("(?s).*(" + name + " *([-+*/%&|^]|<<|>>>?)?=[^=].*|" + name + "(\\+\\+|--).*"
                + "|(\\+\\+|--)" + name + ".*)");
    }

    private Set<String> reached(String from) {
        Set<String> all = new TreeSet<>(callsOf.get(from));
        int before = -1;
        while (before != all.size()) {
            before = all.size();
            for (String name : Set.copyOf(all)) {
                all.addAll(callsOf.getOrDefault(name, Set.of()));
            }
        }
        return all;
    }

    /** How many methods are under way at once; no more than one above the limit is told apart. */
    private int depth(String from) {
        Set<String> under = Set.of(from);
        int deep = 0;
        while (!under.isEmpty() && deep <= DEEPEST_CALL) {
            deep++;
            Set<String> next = new TreeSet<>();
            for (String name : under) {
                next.addAll(callsOf.getOrDefault(name, Set.of()));
            }
            under = next;
        }
        return deep;
    }
}
