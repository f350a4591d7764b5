import com.sun.source.tree.ArrayAccessTree;
import com.sun.source.tree.ArrayTypeTree;
import com.sun.source.tree.AssignmentTree;
import com.sun.source.tree.BinaryTree;
import com.sun.source.tree.BlockTree;
import com.sun.source.tree.ClassTree;
import com.sun.source.tree.CompilationUnitTree;
import com.sun.source.tree.CompoundAssignmentTree;
import com.sun.source.tree.ExpressionStatementTree;
import com.sun.source.tree.ExpressionTree;
import com.sun.source.tree.ForLoopTree;
import com.sun.source.tree.IdentifierTree;
import com.sun.source.tree.LiteralTree;
import com.sun.source.tree.MethodInvocationTree;
import com.sun.source.tree.MethodTree;
import com.sun.source.tree.NewArrayTree;
import com.sun.source.tree.PrimitiveTypeTree;
import com.sun.source.tree.StatementTree;
import com.sun.source.tree.Tree;
import com.sun.source.tree.Tree.Kind;
import com.sun.source.tree.TypeCastTree;
import com.sun.source.tree.UnaryTree;
import com.sun.source.tree.VariableTree;
import com.sun.source.util.JavacTask;
import com.sun.source.util.SourcePositions;
import com.sun.source.util.TreePathScanner;
import com.sun.source.util.TreeScanner;
import com.sun.source.util.Trees;
import java.io.IOException;
import java.net.URI;
import java.util.ArrayList;
import java.util.EnumSet;
import java.util.List;
import java.util.Map;
import java.util.Set;
import java.util.TreeMap;
import java.util.TreeSet;
import javax.lang.model.element.Modifier;
import javax.lang.model.type.TypeKind;
import javax.tools.JavaFileObject;
import javax.tools.SimpleJavaFileObject;
import javax.tools.ToolProvider;

/**
 * Reads a class as the compiler does and tells which rules of LANGUAGE.md it breaks. Where the rules leave more than
 * WalkerPlan needs, this is stricter than they are, as that is easier to be sure of: arrays are made in fields'
 * initialisers and only ever indexed by their fields' names, each loop is a for with a counter, and nothing is divided.
 * Whether an index is in its array (rule 7) it cannot see; of rule 1 it looks at nesting and the package line alone.
 */
final class Rules extends TreePathScanner<Void, Void> {
    private static final int MOST_PARAMETERS = 7, MOST_LINES = 60, MOST_DEPTH = 6, MOST_FIELDS = 40;

    private static final Set<TypeKind> TYPES = EnumSet.of(TypeKind.INT, TypeKind.LONG, TypeKind.SHORT, TypeKind.BYTE,
        TypeKind.CHAR, TypeKind.BOOLEAN);

    private static final Set<Kind> LEFT = EnumSet.of(
        Kind.COMPILATION_UNIT, Kind.CLASS, Kind.MODIFIERS, Kind.VARIABLE, Kind.METHOD, Kind.BLOCK,
        Kind.PRIMITIVE_TYPE, Kind.ARRAY_TYPE, Kind.NEW_ARRAY, Kind.IDENTIFIER, Kind.ARRAY_ACCESS,
        Kind.INT_LITERAL, Kind.LONG_LITERAL, Kind.CHAR_LITERAL, Kind.BOOLEAN_LITERAL,
        Kind.IF, Kind.FOR_LOOP, Kind.SWITCH, Kind.CASE, Kind.BREAK, Kind.CONTINUE, Kind.LABELED_STATEMENT, Kind.RETURN,
        Kind.EXPRESSION_STATEMENT, Kind.METHOD_INVOCATION, Kind.PARENTHESIZED, Kind.CONDITIONAL_EXPRESSION,
        Kind.TYPE_CAST, Kind.ASSIGNMENT, Kind.PLUS_ASSIGNMENT, Kind.MINUS_ASSIGNMENT, Kind.MULTIPLY_ASSIGNMENT,
        Kind.OR_ASSIGNMENT, Kind.AND_ASSIGNMENT, Kind.XOR_ASSIGNMENT, Kind.POSTFIX_INCREMENT, Kind.POSTFIX_DECREMENT,
        Kind.PREFIX_INCREMENT, Kind.PREFIX_DECREMENT, Kind.UNARY_MINUS, Kind.LOGICAL_COMPLEMENT,
        Kind.BITWISE_COMPLEMENT, Kind.PLUS, Kind.MINUS, Kind.MULTIPLY, Kind.LEFT_SHIFT, Kind.RIGHT_SHIFT,
        Kind.UNSIGNED_RIGHT_SHIFT, Kind.AND, Kind.OR, Kind.XOR, Kind.CONDITIONAL_AND, Kind.CONDITIONAL_OR,
        Kind.EQUAL_TO, Kind.NOT_EQUAL_TO, Kind.LESS_THAN, Kind.LESS_THAN_EQUAL, Kind.GREATER_THAN,
        Kind.GREATER_THAN_EQUAL);

    private final List<String> broken = new ArrayList<>();
    private final CompilationUnitTree unit;
    private final SourcePositions positions;
    private final Map<String, Long> constants = new TreeMap<>();
    private final Set<String> arrays = new TreeSet<>();
    private final Map<String, Set<String>> calls = new TreeMap<>();
    private final Map<String, Set<String>> assigned = new TreeMap<>();
    private final Set<String> fields = new TreeSet<>();
    private int classes = 0;

    private Rules(CompilationUnitTree unit, SourcePositions positions) {
        this.unit = unit;
        this.positions = positions;
    }

    /** One row for each place that breaks a rule; it begins with the rule's number. */
    static List<String> broken(String source) throws IOException {
        URI name = URI.create("string:///WalkerPlan.java");
        JavaFileObject file = new SimpleJavaFileObject(name, JavaFileObject.Kind.SOURCE) {
            @Override
            public CharSequence getCharContent(boolean ignore) {
                return source;
            }
        };
        JavacTask task = (JavacTask) ToolProvider.getSystemJavaCompiler()
            .getTask(null, null, null, List.of("--release", "17"), null, List.of(file));
        CompilationUnitTree unit = task.parse().iterator().next();
        Rules rules = new Rules(unit, Trees.instance(task).getSourcePositions());
        rules.collect();
        rules.scan(unit, null);
        rules.callGraph();
        return rules.broken;
    }

    private long line(long position) {
        return unit.getLineMap().getLineNumber(position);
    }

    private void broken(int rule, Tree where, String what) {
        broken.add("rule " + rule + ", line " + line(positions.getStartPosition(unit, where)) + ": " + what);
    }

    private Tree parent() {
        return getCurrentPath().getParentPath().getLeaf();
    }

    // What the checks need to know before they come to it

    private void collect() {
        for (Tree type : unit.getTypeDecls()) {
            if (type instanceof ClassTree) {
                for (Tree member : ((ClassTree) type).getMembers()) {
                    collectMember(member);
                }
            }
        }
    }

    private void collectMember(Tree member) {
        if (member instanceof VariableTree) {
            VariableTree field = (VariableTree) member;
            if (isStatic(field)) {
                if (field.getInitializer() != null) constants.put(name(field), valueOf(field.getInitializer()));
            } else {
                fields.add(name(field));
                if (field.getType() instanceof ArrayTypeTree) arrays.add(name(field));
            }
        } else if (member instanceof MethodTree) {
            MethodTree method = (MethodTree) member;
            calls.computeIfAbsent(name(method), k -> new TreeSet<>()).addAll(callsIn(method));
            assigned.computeIfAbsent(name(method), k -> new TreeSet<>()).addAll(assignedIn(method));
        }
    }

    private static String name(VariableTree variable) {
        return variable.getName().toString();
    }

    private static String name(MethodTree method) {
        return method.getName().toString();
    }

    private static boolean isStatic(VariableTree field) {
        return field.getModifiers().getFlags().contains(Modifier.STATIC);
    }

    /** The value of a whole number that is written out, or null. */
    private static Long valueOf(Tree tree) {
        if (tree.getKind() == Kind.UNARY_MINUS) {
            Long value = valueOf(((UnaryTree) tree).getExpression());
            return value == null ? null : -value;
        }
        boolean whole = tree.getKind() == Kind.INT_LITERAL || tree.getKind() == Kind.LONG_LITERAL;
        return whole ? ((Number) ((LiteralTree) tree).getValue()).longValue() : null;
    }

    private static Set<String> callsIn(Tree tree) {
        Set<String> found = new TreeSet<>();
        new TreeScanner<Void, Void>() {
            @Override
            public Void visitMethodInvocation(MethodInvocationTree call, Void p) {
                found.add(call.getMethodSelect().toString());
                return super.visitMethodInvocation(call, p);
            }
        }.scan(tree, null);
        return found;
    }

    private static Set<String> assignedIn(Tree tree) {
        Set<String> found = new TreeSet<>();
        new TreeScanner<Void, Void>() {
            @Override
            public Void visitAssignment(AssignmentTree a, Void p) {
                found.add(a.getVariable().toString());
                return super.visitAssignment(a, p);
            }

            @Override
            public Void visitCompoundAssignment(CompoundAssignmentTree a, Void p) {
                found.add(a.getVariable().toString());
                return super.visitCompoundAssignment(a, p);
            }

            @Override
            public Void visitUnary(UnaryTree u, Void p) {
                if (u.getKind().name().endsWith("CREMENT")) found.add(u.getExpression().toString());
                return super.visitUnary(u, p);
            }
        }.scan(tree, null);
        return found;
    }

    // The checks

    @Override
    public Void scan(Tree tree, Void p) {
        if (tree != null && !LEFT.contains(tree.getKind()) && !tree.getKind().name().equals("DEFAULT_CASE_LABEL")) {
            broken(ruleOf(tree.getKind()), tree, tree.getKind().toString());
        }
        return super.scan(tree, p);
    }

    private static int ruleOf(Kind kind) {
        switch (kind) {
            case PACKAGE: case INTERFACE: case ENUM: case RECORD: case ANNOTATION_TYPE:
                return 1;
            case STRING_LITERAL: case FLOAT_LITERAL: case DOUBLE_LITERAL: case PARAMETERIZED_TYPE:
                return 2;
            case IMPORT: case MEMBER_SELECT: case ANNOTATION:
                return 3;
            case NEW_CLASS: case NULL_LITERAL:
                return 4;
            case THROW: case TRY: case CATCH: case SYNCHRONIZED: case ASSERT: case INSTANCE_OF:
            case LAMBDA_EXPRESSION: case MEMBER_REFERENCE:
                return 6;
            case DIVIDE: case REMAINDER: case DIVIDE_ASSIGNMENT: case REMAINDER_ASSIGNMENT:
                return 7;
            case WHILE_LOOP: case DO_WHILE_LOOP: case ENHANCED_FOR_LOOP:
                return 8;
            default:
                return 9;
        }
    }

    @Override
    public Void visitClass(ClassTree tree, Void p) {
        classes++;
        if (classes > 1) broken(1, tree, "a second class");
        if (classes == 1 && fields.size() > MOST_FIELDS) broken(10, tree, fields.size() + " fields");
        for (Tree member : tree.getMembers()) {
            if (member instanceof BlockTree) broken(5, member, "an initialiser block");
        }
        return super.visitClass(tree, p);
    }

    @Override
    public Void visitVariable(VariableTree tree, Void p) {
        boolean field = parent() instanceof ClassTree;
        boolean array = tree.getType() instanceof ArrayTypeTree;
        if (!isType(tree.getType())) broken(2, tree, "the type of " + tree.getName());
        if (array && !field) broken(4, tree, "an array beside the fields, " + tree.getName());
        if (field && isStatic(tree)) {
            boolean constant = tree.getModifiers().getFlags().contains(Modifier.FINAL)
                && isWhole(tree.getType()) && constants.get(name(tree)) != null;
            if (!constant) broken(5, tree, "static, but no constant: " + tree.getName());
        } else if (field && array && !(tree.getInitializer() instanceof NewArrayTree)) {
            broken(4, tree, "not made in its initialiser: " + tree.getName());
        }
        return super.visitVariable(tree, p);
    }

    private static boolean isPrimitive(Tree type) {
        return type instanceof PrimitiveTypeTree && TYPES.contains(((PrimitiveTypeTree) type).getPrimitiveTypeKind());
    }

    private static boolean isWhole(Tree type) {
        return type instanceof PrimitiveTypeTree
            && EnumSet.of(TypeKind.INT, TypeKind.LONG).contains(((PrimitiveTypeTree) type).getPrimitiveTypeKind());
    }

    private static boolean isType(Tree type) {
        return isPrimitive(type) || type instanceof ArrayTypeTree && isPrimitive(((ArrayTypeTree) type).getType());
    }

    @Override
    public Void visitMethod(MethodTree tree, Void p) {
        Tree type = tree.getReturnType();
        boolean plain = type == null || isPrimitive(type) || type.toString().equals("void");
        if (!plain) broken(type instanceof ArrayTypeTree ? 4 : 2, tree, "what " + tree.getName() + " answers");
        if (tree.getParameters().size() > MOST_PARAMETERS) broken(10, tree, "the parameters of " + tree.getName());
        if (!tree.getThrows().isEmpty()) broken(6, tree, "a throws clause");
        long first = line(positions.getStartPosition(unit, tree));
        long last = line(positions.getEndPosition(unit, tree));
        if (last - first + 1 > MOST_LINES) broken(10, tree, "the length of " + tree.getName());
        return super.visitMethod(tree, p);
    }

    @Override
    public Void visitNewArray(NewArrayTree tree, Void p) {
        boolean field = parent() instanceof VariableTree
            && getCurrentPath().getParentPath().getParentPath().getLeaf() instanceof ClassTree;
        boolean oneLength = tree.getInitializers() == null && tree.getDimensions().size() == 1;
        if (!field) broken(4, tree, "an array made outside a field's initialiser");
        if (!oneLength || !isLength(tree.getDimensions().get(0))) broken(4, tree, "the length of an array");
        return super.visitNewArray(tree, p);
    }

    private boolean isLength(ExpressionTree tree) {
        Long value = tree instanceof IdentifierTree ? constants.get(tree.toString()) : valueOf(tree);
        return value != null && value >= 1;
    }

    @Override
    public Void visitIdentifier(IdentifierTree tree, Void p) {
        if (arrays.contains(tree.toString())) {
            boolean indexed = parent() instanceof ArrayAccessTree && ((ArrayAccessTree) parent()).getExpression() == tree;
            if (!indexed) broken(4, tree, "an array that is not indexed, " + tree);
        }
        return super.visitIdentifier(tree, p);
    }

    @Override
    public Void visitTypeCast(TypeCastTree tree, Void p) {
        if (!isPrimitive(tree.getType())) broken(6, tree, "a cast of a reference");
        return super.visitTypeCast(tree, p);
    }

    @Override
    public Void visitMethodInvocation(MethodInvocationTree tree, Void p) {
        if (!calls.containsKey(tree.getMethodSelect().toString())) {
            broken(3, tree, "a call of what the class does not have, " + tree.getMethodSelect());
        }
        for (ExpressionTree argument : tree.getArguments()) {
            if (!callsIn(argument).isEmpty()) broken(10, tree, "a call inside the arguments of another");
        }
        return super.visitMethodInvocation(tree, p);
    }

    @Override
    public Void visitForLoop(ForLoopTree tree, Void p) {
        if (!hasSeenEnd(tree)) broken(8, tree, "a loop whose end is not seen");
        return super.visitForLoop(tree, p);
    }

    /** for (int i = ..; i < bound; i++), or with <=, where nothing inside changes i or the bound. */
    private boolean hasSeenEnd(ForLoopTree tree) {
        List<? extends StatementTree> first = tree.getInitializer();
        List<? extends ExpressionStatementTree> update = tree.getUpdate();
        if (first.size() != 1 || !(first.get(0) instanceof VariableTree) || update.size() != 1) return false;
        String counter = name((VariableTree) first.get(0));
        if (!(tree.getCondition() instanceof BinaryTree)) return false;
        BinaryTree condition = (BinaryTree) tree.getCondition();
        boolean below = condition.getKind() == Kind.LESS_THAN || condition.getKind() == Kind.LESS_THAN_EQUAL;
        ExpressionTree bound = condition.getRightOperand();
        boolean plain = bound instanceof IdentifierTree || bound instanceof LiteralTree;
        if (!below || !plain || !condition.getLeftOperand().toString().equals(counter)) return false;
        ExpressionTree counts = update.get(0).getExpression();
        boolean up = counts.getKind() == Kind.POSTFIX_INCREMENT || counts.getKind() == Kind.PREFIX_INCREMENT;
        if (!up || !((UnaryTree) counts).getExpression().toString().equals(counter)) return false;
        Set<String> changed = changedBy(tree.getStatement());
        return !changed.contains(counter) && !changed.contains(bound.toString());
    }

    /** The names that are assigned to in a statement, and the fields that are in a method called from it. */
    private Set<String> changedBy(Tree tree) {
        Set<String> changed = assignedIn(tree);
        Set<String> reached = new TreeSet<>();
        List<String> open = new ArrayList<>(callsIn(tree));
        while (!open.isEmpty()) {
            String method = open.remove(open.size() - 1);
            if (reached.add(method)) {
                assigned.getOrDefault(method, Set.of()).stream().filter(fields::contains).forEach(changed::add);
                open.addAll(calls.getOrDefault(method, Set.of()));
            }
        }
        return changed;
    }

    private void callGraph() {
        for (String method : calls.keySet()) {
            depth(method, new ArrayList<>());
        }
    }

    private void depth(String method, List<String> above) {
        boolean again = above.contains(method);
        above.add(method);
        if (again) {
            broken.add("rule 8: recursion, " + above);
        } else if (above.size() > MOST_DEPTH) {
            broken.add("rule 10: calls too deep, " + above);
        } else {
            for (String called : calls.getOrDefault(method, Set.of())) {
                depth(called, above);
            }
        }
        above.remove(above.size() - 1);
    }
}
