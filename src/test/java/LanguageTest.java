import com.sun.source.tree.ArrayAccessTree;
import com.sun.source.tree.BlockTree;
import com.sun.source.tree.ExpressionTree;
import com.sun.source.tree.IdentifierTree;
import com.sun.source.tree.MemberSelectTree;
import com.sun.source.tree.MethodInvocationTree;
import com.sun.source.tree.MethodTree;
import com.sun.source.tree.NewArrayTree;
import com.sun.source.tree.PrimitiveTypeTree;
import com.sun.source.tree.Tree;
import com.sun.source.tree.VariableTree;
import com.sun.source.util.TreePathScanner;
import com.sun.source.util.TreeScanner;
import java.io.IOException;
import java.util.EnumSet;
import java.util.HashSet;
import java.util.Map;
import java.util.Set;
import java.util.TreeMap;
import java.util.TreeSet;
import javax.lang.model.element.Modifier;
import javax.lang.model.type.TypeKind;

/**
 * Rules 1 to 6, 10 and 11 of LANGUAGE.md, read off the source; FaceTest has what else rule 1 says,
 * and LanguageEndsTest has rules 7 and 8.
 */
public final class LanguageTest {
    private static final int MOST_PARAMETERS = 7;
    private static final int MOST_LINES = 60;
    private static final int MOST_DEEP = 6;
    private static final int MOST_FIELDS = 40;

    // Rule 2: what is neither a number, a boolean nor a flat array. Rule 6: the barred statements.
    private static final Set<Tree.Kind> BARRED = EnumSet.of(
        Tree.Kind.THROW, Tree.Kind.TRY, Tree.Kind.CATCH, Tree.Kind.SYNCHRONIZED, Tree.Kind.ASSERT,
        Tree.Kind.INSTANCE_OF, Tree.Kind.LAMBDA_EXPRESSION, Tree.Kind.MEMBER_REFERENCE,
        Tree.Kind.NEW_CLASS, Tree.Kind.NULL_LITERAL, Tree.Kind.STRING_LITERAL,
        Tree.Kind.FLOAT_LITERAL, Tree.Kind.DOUBLE_LITERAL, Tree.Kind.PARAMETERIZED_TYPE,
        Tree.Kind.ANNOTATION);

    private final Set<String> methods = new HashSet<>();
    private final Set<String> arrays = new HashSet<>();
    private final Set<NewArrayTree> arraysOfFields = new HashSet<>();
    private final Map<String, Set<String>> calls = new TreeMap<>();
    private final SourceTree source;

    private LanguageTest(SourceTree source) {
        this.source = source;
    }

    public static void main(String[] args) throws IOException {
        new LanguageTest(SourceTree.read()).check();
        Due.end();
    }

    private void check() {
        Due.yes("no package", source.unit.getPackageName() == null);
        Due.same("imports", source.unit.getImports().size(), 0);
        Due.same("classes in the file", source.unit.getTypeDecls().size(), 1);
        int fields = 0;
        for (Tree member : source.members()) {
            if (member instanceof VariableTree) {
                fields += checkField((VariableTree) member);
            } else {
                Due.yes(source.at(member) + "is a method or constructor", member instanceof MethodTree);
                Due.no(source.at(member) + "is an initialiser block", member instanceof BlockTree);
            }
        }
        Due.yes("fields beside the constants: " + fields, fields <= MOST_FIELDS);
        for (Tree member : source.members()) {
            if (member instanceof MethodTree) {
                methods.add(((MethodTree) member).getName().toString());
                checkMethod((MethodTree) member);
            }
        }
        new Rules().scan(source.unit, null);
        for (String method : calls.keySet()) {
            depth(method, new TreeSet<>());
        }
    }

    /** Answers 1 if the field counts among the forty. */
    private int checkField(VariableTree field) {
        Set<Modifier> marks = field.getModifiers().getFlags();
        if (marks.contains(Modifier.STATIC)) {
            String type = field.getType().toString();
            Due.yes(source.at(field) + "is a constant", marks.contains(Modifier.FINAL)
                && (type.equals("int") || type.equals("long")) && field.getInitializer() != null);
            Calls asked = new Calls();
            asked.scan(field.getInitializer(), null);
            Due.same(source.at(field) + "calls in a constant", asked.names.toString(), "[]");
            return 0;
        }
        if (field.getType().getKind() == Tree.Kind.ARRAY_TYPE) {
            Due.yes(source.at(field) + "is final and made here", marks.contains(Modifier.FINAL)
                && field.getInitializer() instanceof NewArrayTree);
            arrays.add(field.getName().toString());
            arraysOfFields.add((NewArrayTree) field.getInitializer());
        }
        return 1;
    }

    private void checkMethod(MethodTree method) {
        Due.yes(source.at(method) + "few parameters", method.getParameters().size() <= MOST_PARAMETERS);
        Due.same(source.at(method) + "declared exceptions", method.getThrows().size(), 0);
        Due.yes(source.at(method) + "short", source.lines(method) <= MOST_LINES);
        Tree answer = method.getReturnType();
        Due.yes(source.at(method) + "answers no array", answer == null || answer instanceof PrimitiveTypeTree);
        Calls found = new Calls();
        found.scan(method.getBody(), null);
        calls.put(method.getName().toString(), found.names);
    }

    private int depth(String method, Set<String> above) {
        Set<String> path = new TreeSet<>(above);
        if (!path.add(method)) {
            Due.yes(method + " does not call itself, over " + above, false);
            return 0;
        }
        int below = 0;
        for (String called : calls.getOrDefault(method, Set.of())) {
            below = Math.max(below, depth(called, path));
        }
        Due.yes(method + " calls not too deep", below + 1 <= MOST_DEEP);
        return below + 1;
    }

    private static final class Calls extends TreeScanner<Void, Void> {
        private final Set<String> names = new TreeSet<>();

        @Override
        public Void visitMethodInvocation(MethodInvocationTree call, Void none) {
            String name = call.getMethodSelect().toString();
            // The parser adds the empty call of the constructor above.
            if (!name.equals("super")) {
                names.add(name);
            }
            return super.visitMethodInvocation(call, none);
        }
    }

    private final class Rules extends TreePathScanner<Void, Void> {
        @Override
        public Void scan(Tree tree, Void none) {
            if (tree != null) {
                Due.no(source.at(tree) + tree.getKind(), BARRED.contains(tree.getKind()));
            }
            return super.scan(tree, none);
        }

        @Override
        public Void visitPrimitiveType(PrimitiveTypeTree type, Void none) {
            TypeKind kind = type.getPrimitiveTypeKind();
            Due.no(source.at(type) + kind, kind == TypeKind.FLOAT || kind == TypeKind.DOUBLE);
            return super.visitPrimitiveType(type, none);
        }

        @Override
        public Void visitVariable(VariableTree variable, Void none) {
            String type = variable.getType().toString();
            Due.yes(source.at(variable) + "type " + type,
                type.matches("(int|long|short|byte|char|boolean)(\\[\\])?"));
            if (type.endsWith("[]")) {
                arrays.add(variable.getName().toString());
            }
            return super.visitVariable(variable, none);
        }

        @Override
        public Void visitIdentifier(IdentifierTree name, Void none) {
            if (arrays.contains(name.toString())) {
                // Anywhere else it would be compared, answered, or become another variable's array.
                Due.yes(source.at(name) + name + " is indexed, measured or handed on", isOrdinaryUse(name));
            }
            return super.visitIdentifier(name, none);
        }

        private boolean isOrdinaryUse(IdentifierTree array) {
            Tree around = getCurrentPath().getParentPath().getLeaf();
            if (around instanceof ArrayAccessTree) {
                return ((ArrayAccessTree) around).getExpression() == array;
            }
            if (around instanceof MethodInvocationTree) {
                return ((MethodInvocationTree) around).getArguments().contains(array);
            }
            return around instanceof MemberSelectTree;
        }

        @Override
        public Void visitMemberSelect(MemberSelectTree select, Void none) {
            String name = select.getIdentifier().toString();
            // An array is to be named without this, so that visitIdentifier sees it.
            boolean isOwn = select.getExpression().toString().equals("this") && !arrays.contains(name);
            boolean isLength = select.getExpression() instanceof IdentifierTree && name.equals("length");
            Due.yes(source.at(select) + select, isOwn || isLength);
            return super.visitMemberSelect(select, none);
        }

        @Override
        public Void visitNewArray(NewArrayTree made, Void none) {
            Due.yes(source.at(made) + "made for a field", arraysOfFields.contains(made));
            Due.same(source.at(made) + "dimensions", made.getDimensions().size(), 1);
            for (ExpressionTree length : made.getDimensions()) {
                Due.yes(source.at(made) + "a literal or a constant", length.toString().matches("[A-Z_]+|[1-9][0-9]*"));
            }
            return super.visitNewArray(made, none);
        }

        @Override
        public Void visitMethodInvocation(MethodInvocationTree call, Void none) {
            String name = call.getMethodSelect().toString();
            Due.yes(source.at(call) + name + " is a method of the class", name.equals("super") || methods.contains(name));
            Calls inside = new Calls();
            inside.scan(call.getArguments(), null);
            Due.same(source.at(call) + "calls in the arguments", inside.names.toString(), "[]");
            return super.visitMethodInvocation(call, none);
        }
    }
}
