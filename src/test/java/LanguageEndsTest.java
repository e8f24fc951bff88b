import com.sun.source.tree.AssignmentTree;
import com.sun.source.tree.BinaryTree;
import com.sun.source.tree.CompoundAssignmentTree;
import com.sun.source.tree.DoWhileLoopTree;
import com.sun.source.tree.ExpressionTree;
import com.sun.source.tree.ForLoopTree;
import com.sun.source.tree.ParenthesizedTree;
import com.sun.source.tree.StatementTree;
import com.sun.source.tree.Tree;
import com.sun.source.tree.UnaryTree;
import com.sun.source.tree.VariableTree;
import com.sun.source.tree.WhileLoopTree;
import com.sun.source.util.TreeScanner;
import java.io.IOException;
import java.util.EnumSet;
import java.util.HashSet;
import java.util.List;
import java.util.Set;
import javax.lang.model.element.Modifier;

/**
 * Rules 7 and 8 of LANGUAGE.md, read off the source: every loop counts in steps of one towards a
 * bound that stays, and every divisor is a number that is not 0. Left to a reader: that each index
 * is inside its array (the other tests would end with an exception if one they reach were not).
 */
public final class LanguageEndsTest extends TreeScanner<Void, Void> {
    private static final String NAME = "[A-Za-z_]+";
    private static final String CONSTANT = "[A-Z_]+";
    private static final String LITERAL = "[0-9]+";
    private static final Set<Tree.Kind> STEPS = EnumSet.of(Tree.Kind.POSTFIX_INCREMENT, Tree.Kind.PREFIX_INCREMENT,
        Tree.Kind.POSTFIX_DECREMENT, Tree.Kind.PREFIX_DECREMENT);

    private final SourceTree source;
    private final Set<String> changingFields = new HashSet<>();

    private LanguageEndsTest(SourceTree source) {
        this.source = source;
    }

    public static void main(String[] args) throws IOException {
        SourceTree source = SourceTree.read();
        LanguageEndsTest test = new LanguageEndsTest(source);
        for (Tree member : source.members()) {
            if (member instanceof VariableTree) {
                test.noteField((VariableTree) member);
            }
        }
        test.scan(source.unit, null);
        Due.end();
    }

    private void noteField(VariableTree field) {
        if (!field.getModifiers().getFlags().contains(Modifier.FINAL)) {
            changingFields.add(field.getName().toString());
        }
    }

    // The rules allow while and do, but the end of a for loop can be read off its first line.
    @Override
    public Void visitWhileLoop(WhileLoopTree loop, Void none) {
        Due.no(source.at(loop) + "while", true);
        return super.visitWhileLoop(loop, none);
    }

    @Override
    public Void visitDoWhileLoop(DoWhileLoopTree loop, Void none) {
        Due.no(source.at(loop) + "do", true);
        return super.visitDoWhileLoop(loop, none);
    }

    @Override
    public Void visitForLoop(ForLoopTree loop, Void none) {
        Due.yes(source.at(loop) + "a counter goes to a bound", isCounted(loop));
        return super.visitForLoop(loop, none);
    }

    private boolean isCounted(ForLoopTree loop) {
        List<? extends StatementTree> starts = loop.getInitializer();
        if (starts.size() != 1 || !(starts.get(0) instanceof VariableTree) || loop.getUpdate().size() != 1) {
            return false;
        }
        String counter = ((VariableTree) starts.get(0)).getName().toString();
        String step = loop.getUpdate().get(0).toString().replace(";", "");
        Tree.Kind goesOn = Tree.Kind.OTHER;
        Tree.Kind goesOnTo = Tree.Kind.OTHER;
        if (step.equals(counter + "++")) {
            goesOn = Tree.Kind.LESS_THAN;
            goesOnTo = Tree.Kind.LESS_THAN_EQUAL;
        } else if (step.equals(counter + "--")) {
            goesOn = Tree.Kind.GREATER_THAN;
            goesOnTo = Tree.Kind.GREATER_THAN_EQUAL;
        }
        BinaryTree check = checkOf(counter, loop.getCondition());
        if (check == null || check.getKind() != goesOn && check.getKind() != goesOnTo) {
            return false;
        }
        String bound = check.getRightOperand().toString();
        Assigned assigned = new Assigned();
        assigned.scan(loop.getStatement(), null);
        return bound.matches(NAME + "|" + LITERAL) && !changingFields.contains(bound)
            && !assigned.names.contains(counter) && !assigned.names.contains(bound);
    }

    /** The comparison of the counter without which the loop does not go on; null if there is none. */
    private static BinaryTree checkOf(String counter, ExpressionTree condition) {
        ExpressionTree bare = condition;
        while (bare instanceof ParenthesizedTree) {
            bare = ((ParenthesizedTree) bare).getExpression();
        }
        if (!(bare instanceof BinaryTree)) {
            return null;
        }
        BinaryTree both = (BinaryTree) bare;
        if (both.getKind() == Tree.Kind.CONDITIONAL_AND) {
            BinaryTree left = checkOf(counter, both.getLeftOperand());
            return left != null ? left : checkOf(counter, both.getRightOperand());
        }
        return both.getLeftOperand().toString().equals(counter) ? both : null;
    }

    @Override
    public Void visitBinary(BinaryTree two, Void none) {
        if (two.getKind() == Tree.Kind.DIVIDE || two.getKind() == Tree.Kind.REMAINDER) {
            checkDivisor(two, two.getRightOperand());
        }
        return super.visitBinary(two, none);
    }

    @Override
    public Void visitCompoundAssignment(CompoundAssignmentTree two, Void none) {
        if (two.getKind() == Tree.Kind.DIVIDE_ASSIGNMENT || two.getKind() == Tree.Kind.REMAINDER_ASSIGNMENT) {
            checkDivisor(two, two.getExpression());
        }
        return super.visitCompoundAssignment(two, none);
    }

    private void checkDivisor(Tree around, ExpressionTree divisor) {
        Due.yes(source.at(around) + "the divisor is a constant and not 0",
            divisor.toString().matches(CONSTANT + "|[1-9][0-9]*"));
    }

    /** The variables that get a new value somewhere in the lines that are scanned. */
    private static final class Assigned extends TreeScanner<Void, Void> {
        private final Set<String> names = new HashSet<>();

        @Override
        public Void visitAssignment(AssignmentTree set, Void none) {
            names.add(set.getVariable().toString());
            return super.visitAssignment(set, none);
        }

        @Override
        public Void visitCompoundAssignment(CompoundAssignmentTree set, Void none) {
            names.add(set.getVariable().toString());
            return super.visitCompoundAssignment(set, none);
        }

        @Override
        public Void visitUnary(UnaryTree step, Void none) {
            if (STEPS.contains(step.getKind())) {
                names.add(step.getExpression().toString());
            }
            return super.visitUnary(step, none);
        }
    }
}
