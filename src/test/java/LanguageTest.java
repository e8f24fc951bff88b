import com.sun.source.tree.BlockTree;
import com.sun.source.tree.ClassTree;
import com.sun.source.tree.CompilationUnitTree;
import com.sun.source.tree.ExpressionTree;
import com.sun.source.tree.IdentifierTree;
import com.sun.source.tree.LineMap;
import com.sun.source.tree.MemberSelectTree;
import com.sun.source.tree.MethodInvocationTree;
import com.sun.source.tree.MethodTree;
import com.sun.source.tree.NewArrayTree;
import com.sun.source.tree.PrimitiveTypeTree;
import com.sun.source.tree.ReturnTree;
import com.sun.source.tree.Tree;
import com.sun.source.tree.VariableTree;
import com.sun.source.util.JavacTask;
import com.sun.source.util.SourcePositions;
import com.sun.source.util.TreeScanner;
import com.sun.source.util.Trees;
import java.io.File;
import java.io.IOException;
import java.util.EnumSet;
import java.util.HashSet;
import java.util.List;
import java.util.Map;
import java.util.Set;
import java.util.TreeMap;
import java.util.TreeSet;
import javax.lang.model.element.Modifier;
import javax.lang.model.type.TypeKind;
import javax.tools.JavaCompiler;
import javax.tools.StandardJavaFileManager;
import javax.tools.ToolProvider;

/**
 * Rules of LANGUAGE.md, read off the source. Left to a reader: rule 7, the ends of loops in rule 8,
 * and in rule 4 the comparing of arrays and the locals that name one.
 */
public final class LanguageTest {
    private static final String SOURCE = "src/main/java/TourSolver.java";
    private static final int MOST_PARAMETERS = 7;
    private static final int MOST_LINES = 60;
    private static final int MOST_DEEP = 6;
    private static final int MOST_FIELDS = 40;

    // Rule 2: what is neither a number, a boolean nor a flat array. Rule 6: the barred statements.
    private static final Set<Tree.Kind> BARRED = EnumSet.of(
        Tree.Kind.THROW, Tree.Kind.TRY, Tree.Kind.CATCH, Tree.Kind.SYNCHRONIZED, Tree.Kind.ASSERT,
        Tree.Kind.INSTANCE_OF, Tree.Kind.LAMBDA_EXPRESSION, Tree.Kind.MEMBER_REFERENCE,
        Tree.Kind.NEW_CLASS, Tree.Kind.NULL_LITERAL, Tree.Kind.STRING_LITERAL,
        Tree.Kind.FLOAT_LITERAL, Tree.Kind.DOUBLE_LITERAL, Tree.Kind.PARAMETERIZED_TYPE,
        Tree.Kind.ANNOTATION);

    private final Set<String> methods = new HashSet<>();
    private final Set<String> arrays = new HashSet<>();
    private final Set<NewArrayTree> arraysOfFields = new HashSet<>();
    private final Map<String, Set<String>> calls = new TreeMap<>();
    private final Trees trees;
    private final CompilationUnitTree unit;

    private LanguageTest(Trees trees, CompilationUnitTree unit) {
        this.trees = trees;
        this.unit = unit;
    }

    public static void main(String[] args) throws IOException {
        JavaCompiler compiler = ToolProvider.getSystemJavaCompiler();
        try (StandardJavaFileManager files = compiler.getStandardFileManager(null, null, null)) {
            JavacTask task = (JavacTask) compiler.getTask(null, files, null, List.of("-proc:none"), null,
                files.getJavaFileObjects(new File(SOURCE)));
            new LanguageTest(Trees.instance(task), task.parse().iterator().next()).check();
        }
        Due.end();
    }

    private void check() {
        Due.yes("no package", unit.getPackageName() == null);
        Due.same("imports", unit.getImports().size(), 0);
        Due.same("classes in the file", unit.getTypeDecls().size(), 1);
        ClassTree type = (ClassTree) unit.getTypeDecls().get(0);
        int fields = 0;
        for (Tree member : type.getMembers()) {
            if (member instanceof VariableTree) {
                fields += checkField((VariableTree) member);
            } else {
                Due.yes(at(member) + "is a method or constructor", member instanceof MethodTree);
                Due.no(at(member) + "is an initialiser block", member instanceof BlockTree);
            }
        }
        Due.yes("fields beside the constants: " + fields, fields <= MOST_FIELDS);
        for (Tree member : type.getMembers()) {
            if (member instanceof MethodTree) {
                methods.add(((MethodTree) member).getName().toString());
            }
        }
        for (Tree member : type.getMembers()) {
            new Rules().scan(member, null);
            if (member instanceof MethodTree) {
                checkMethod((MethodTree) member);
            }
        }
        for (String method : calls.keySet()) {
            depth(method, new TreeSet<>());
        }
    }

    /** Answers 1 if the field counts among the forty. */
    private int checkField(VariableTree field) {
        Set<Modifier> marks = field.getModifiers().getFlags();
        if (marks.contains(Modifier.STATIC)) {
            String type = field.getType().toString();
            Due.yes(at(field) + "is a constant", marks.contains(Modifier.FINAL)
                && (type.equals("int") || type.equals("long")) && field.getInitializer() != null);
            return 0;
        }
        if (field.getType().getKind() == Tree.Kind.ARRAY_TYPE) {
            arrays.add(field.getName().toString());
            Due.yes(at(field) + "is final and made here", marks.contains(Modifier.FINAL)
                && field.getInitializer() instanceof NewArrayTree);
            arraysOfFields.add((NewArrayTree) field.getInitializer());
        }
        return 1;
    }

    private void checkMethod(MethodTree method) {
        Due.yes(at(method) + "few parameters", method.getParameters().size() <= MOST_PARAMETERS);
        Due.same(at(method) + "declared exceptions", method.getThrows().size(), 0);
        SourcePositions places = trees.getSourcePositions();
        LineMap lines = unit.getLineMap();
        long first = lines.getLineNumber(places.getStartPosition(unit, method));
        long last = lines.getLineNumber(places.getEndPosition(unit, method));
        Due.yes(at(method) + "short", last - first < MOST_LINES);
        Tree answer = method.getReturnType();
        Due.yes(at(method) + "answers no array", answer == null || answer instanceof PrimitiveTypeTree);
        Calls found = new Calls();
        found.scan(method.getBody(), null);
        calls.put(method.getName().toString(), found.names);
    }

    private int depth(String method, Set<String> above) {
        Set<String> path = new TreeSet<>(above);
        if (!path.add(method)) {
            Due.yes(method + " does not call itself, over " + above, false);
            return 0;
        }
        int below = 0;
        for (String called : calls.getOrDefault(method, Set.of())) {
            below = Math.max(below, depth(called, path));
        }
        Due.yes(method + " calls not too deep", below + 1 <= MOST_DEEP);
        return below + 1;
    }

    private String at(Tree tree) {
        long place = trees.getSourcePositions().getStartPosition(unit, tree);
        return "line " + unit.getLineMap().getLineNumber(place) + ": ";
    }

    private static final class Calls extends TreeScanner<Void, Void> {
        private final Set<String> names = new TreeSet<>();

        @Override
        public Void visitMethodInvocation(MethodInvocationTree call, Void none) {
            String name = call.getMethodSelect().toString();
            // The parser adds the empty call of the constructor above.
            if (!name.equals("super")) {
                names.add(name);
            }
            return super.visitMethodInvocation(call, none);
        }
    }

    private final class Rules extends TreeScanner<Void, Void> {
        @Override
        public Void scan(Tree tree, Void none) {
            if (tree != null) {
                Due.no(at(tree) + tree.getKind(), BARRED.contains(tree.getKind()));
            }
            return super.scan(tree, none);
        }

        @Override
        public Void visitPrimitiveType(PrimitiveTypeTree type, Void none) {
            TypeKind kind = type.getPrimitiveTypeKind();
            Due.no(at(type) + kind, kind == TypeKind.FLOAT || kind == TypeKind.DOUBLE);
            return super.visitPrimitiveType(type, none);
        }

        @Override
        public Void visitVariable(VariableTree variable, Void none) {
            String type = variable.getType().toString();
            Due.yes(at(variable) + "type " + type, type.matches("(int|long|short|byte|char|boolean)(\\[\\])?"));
            return super.visitVariable(variable, none);
        }

        @Override
        public Void visitMemberSelect(MemberSelectTree select, Void none) {
            boolean isOwn = select.getExpression().toString().equals("this");
            boolean isLength = select.getExpression() instanceof IdentifierTree
                && select.getIdentifier().contentEquals("length");
            Due.yes(at(select) + select, isOwn || isLength);
            return super.visitMemberSelect(select, none);
        }

        @Override
        public Void visitNewArray(NewArrayTree made, Void none) {
            Due.yes(at(made) + "made for a field", arraysOfFields.contains(made));
            Due.same(at(made) + "dimensions", made.getDimensions().size(), 1);
            for (ExpressionTree length : made.getDimensions()) {
                Due.yes(at(made) + "a literal or a constant", length.toString().matches("[A-Z_]+|[1-9][0-9]*"));
            }
            return super.visitNewArray(made, none);
        }

        @Override
        public Void visitReturn(ReturnTree answer, Void none) {
            ExpressionTree value = answer.getExpression();
            Due.no(at(answer) + "answers an array", value != null && arrays.contains(value.toString()));
            return super.visitReturn(answer, none);
        }

        @Override
        public Void visitMethodInvocation(MethodInvocationTree call, Void none) {
            String name = call.getMethodSelect().toString();
            Due.yes(at(call) + name + " is a method of the class", name.equals("super") || methods.contains(name));
            Calls inside = new Calls();
            inside.scan(call.getArguments(), null);
            Due.same(at(call) + "calls in the arguments", inside.names.toString(), "[]");
            return super.visitMethodInvocation(call, none);
        }
    }
}
