import com.sun.source.tree.ArrayAccessTree;
import com.sun.source.tree.AssignmentTree;
import com.sun.source.tree.BinaryTree;
import com.sun.source.tree.CompoundAssignmentTree;
import com.sun.source.tree.ExpressionStatementTree;
import com.sun.source.tree.ExpressionTree;
import com.sun.source.tree.ForLoopTree;
import com.sun.source.tree.IdentifierTree;
import com.sun.source.tree.Tree;
import com.sun.source.tree.UnaryTree;
import com.sun.source.tree.VariableTree;
import com.sun.source.util.TreeScanner;
import java.util.EnumSet;
import java.util.Map;
import java.util.Set;
import java.util.TreeSet;

/** How loops end and what is done with arrays: rules 4, 7 and 8 as far as the source's tree shows them. */
final class Bounds extends TreeScanner<Void, Void> {
    // The rules allow these, but the tree does not show whether they end or throw, so the class does without them.
    private static final Set<Tree.Kind> UNUSED = EnumSet.of(
        Tree.Kind.WHILE_LOOP, Tree.Kind.DO_WHILE_LOOP, Tree.Kind.ENHANCED_FOR_LOOP, Tree.Kind.TYPE_CAST,
        Tree.Kind.DIVIDE, Tree.Kind.REMAINDER, Tree.Kind.DIVIDE_ASSIGNMENT, Tree.Kind.REMAINDER_ASSIGNMENT);

    private static final Map<Tree.Kind, Set<Tree.Kind>> ENDS = Map.of(
        Tree.Kind.POSTFIX_INCREMENT, EnumSet.of(Tree.Kind.LESS_THAN, Tree.Kind.LESS_THAN_EQUAL),
        Tree.Kind.POSTFIX_DECREMENT, EnumSet.of(Tree.Kind.GREATER_THAN, Tree.Kind.GREATER_THAN_EQUAL));

    private final Set<String> arrays;

    /** Takes the names of the fields that are arrays. */
    Bounds(Set<String> arrays) {
        this.arrays = arrays;
    }

    private static void rule(String what, boolean kept) {
        Check.due(what, kept, true);
    }

    @Override
    public Void scan(Tree tree, Void nothing) {
        if (tree != null) {
            rule("no " + tree.getKind() + ": " + tree, !UNUSED.contains(tree.getKind()));
        }
        return super.scan(tree, nothing);
    }

    /** Passes over the array's name, so that it is met as a name only where something else is done with the array. */
    @Override
    public Void visitArrayAccess(ArrayAccessTree access, Void nothing) {
        rule("an array that is a field: " + access, arrays.contains(access.getExpression().toString()));
        return scan(access.getIndex(), nothing);
    }

    @Override
    public Void visitIdentifier(IdentifierTree name, Void nothing) {
        rule(name + " only with an index", !arrays.contains(name.toString()));
        return super.visitIdentifier(name, nothing);
    }

    @Override
    public Void visitForLoop(ForLoopTree loop, Void nothing) {
        rule("the end shows in the lines of " + loop, ends(loop));
        return super.visitForLoop(loop, nothing);
    }

    /** Whether one counter goes by steps of one towards a bound, and the body sets neither of the two. */
    private static boolean ends(ForLoopTree loop) {
        if (loop.getInitializer().size() != 1 || loop.getUpdate().size() != 1) {
            return false;
        }
        if (!(loop.getInitializer().get(0) instanceof VariableTree counter)
            || !(firstCondition(loop.getCondition()) instanceof BinaryTree compared)) {
            return false;
        }
        String name = counter.getName().toString();
        ExpressionStatementTree update = loop.getUpdate().get(0);
        if (!(update.getExpression() instanceof UnaryTree step) || !step.getExpression().toString().equals(name)) {
            return false;
        }
        boolean towards = ENDS.getOrDefault(step.getKind(), Set.of()).contains(compared.getKind());
        Set<String> fixed = names(compared);
        fixed.retainAll(set(loop.getStatement()));
        return towards && compared.getLeftOperand().toString().equals(name) && fixed.isEmpty();
    }

    private static ExpressionTree firstCondition(ExpressionTree condition) {
        ExpressionTree first = condition;
        while (first instanceof BinaryTree both && both.getKind() == Tree.Kind.CONDITIONAL_AND) {
            first = both.getLeftOperand();
        }
        return first;
    }

    private static Set<String> names(Tree tree) {
        Set<String> found = new TreeSet<>();
        new TreeScanner<Void, Void>() {
            @Override
            public Void visitIdentifier(IdentifierTree name, Void nothing) {
                found.add(name.toString());
                return null;
            }
        }.scan(tree, null);
        return found;
    }

    /** The names of the variables that a statement sets. */
    private static Set<String> set(Tree statement) {
        Set<String> found = new TreeSet<>();
        new TreeScanner<Void, Void>() {
            @Override
            public Void visitAssignment(AssignmentTree assignment, Void nothing) {
                found.add(assignment.getVariable().toString());
                return super.visitAssignment(assignment, nothing);
            }

            @Override
            public Void visitCompoundAssignment(CompoundAssignmentTree assignment, Void nothing) {
                found.add(assignment.getVariable().toString());
                return super.visitCompoundAssignment(assignment, nothing);
            }

            @Override
            public Void visitUnary(UnaryTree unary, Void nothing) {
                boolean sets = unary.getKind().toString().matches("(PRE|POST)FIX_.*");
                found.add(sets ? unary.getExpression().toString() : "");
                return super.visitUnary(unary, nothing);
            }
        }.scan(statement, null);
        return found;
    }
}
