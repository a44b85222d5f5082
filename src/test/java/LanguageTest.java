import com.sun.source.tree.ArrayTypeTree;
import com.sun.source.tree.ClassTree;
import com.sun.source.tree.CompilationUnitTree;
import com.sun.source.tree.ExpressionTree;
import com.sun.source.tree.IdentifierTree;
import com.sun.source.tree.LineMap;
import com.sun.source.tree.MemberSelectTree;
import com.sun.source.tree.MethodInvocationTree;
import com.sun.source.tree.MethodTree;
import com.sun.source.tree.NewArrayTree;
import com.sun.source.tree.PrimitiveTypeTree;
import com.sun.source.tree.Tree;
import com.sun.source.tree.VariableTree;
import com.sun.source.util.JavacTask;
import com.sun.source.util.TreeScanner;
import com.sun.source.util.Trees;
import java.io.IOException;
import java.nio.file.Path;
import java.util.EnumSet;
import java.util.HashMap;
import java.util.Map;
import java.util.Set;
import java.util.TreeSet;
import javax.lang.model.element.Element;
import javax.lang.model.element.Modifier;
import javax.lang.model.element.VariableElement;
import javax.lang.model.type.TypeKind;
import javax.lang.model.util.ElementFilter;
import javax.tools.JavaCompiler;
import javax.tools.StandardJavaFileManager;
import javax.tools.ToolProvider;

/** The public face, and the rules of LANGUAGE.md that can be read off the source's tree. */
public final class LanguageTest {
    private static final Path SOURCE = Path.of("src/main/java/TopicBroker.java");

    private static final Set<String> FACE = Set.of(
        "int BAD_ARG", "int FULL", "int NONE", "<init>()",
        "boolean matches(int f,int t)", "int subscribe(int c,int f,int grade)", "int unsubscribe(int c,int f)",
        "int subscriptions(int c)", "int publish(int t,int value,int grade)", "int keep(int t,int value)",
        "int forget(int t)", "int kept(int f)", "int connect(int c,int on)", "int waiting(int c)",
        "int firstTopic(int c)", "int firstGrade(int c)", "int take(int c)", "int lost(int c)",
        "int reached(int t)", "int breadth(int c)");

    private static final Set<Tree.Kind> FORBIDDEN = EnumSet.of(
        Tree.Kind.THROW, Tree.Kind.TRY, Tree.Kind.CATCH, Tree.Kind.SYNCHRONIZED, Tree.Kind.ASSERT,
        Tree.Kind.INSTANCE_OF, Tree.Kind.LAMBDA_EXPRESSION, Tree.Kind.MEMBER_REFERENCE,
        Tree.Kind.NEW_CLASS, Tree.Kind.IMPORT, Tree.Kind.PACKAGE,
        Tree.Kind.STRING_LITERAL, Tree.Kind.NULL_LITERAL, Tree.Kind.FLOAT_LITERAL, Tree.Kind.DOUBLE_LITERAL,
        Tree.Kind.INTERFACE, Tree.Kind.ENUM, Tree.Kind.RECORD, Tree.Kind.ANNOTATION_TYPE,
        Tree.Kind.ANNOTATION, Tree.Kind.TYPE_PARAMETER);

    private static final int MOST_PARAMETERS = 7;
    private static final int MOST_LINES = 60;
    private static final int MOST_DEPTH = 6;
    private static final int MOST_FIELDS = 40;

    private final Map<String, Set<String>> calls = new HashMap<>();
    private final Set<String> visible = new TreeSet<>();
    private final Map<String, String> arrayLengths = new HashMap<>();
    private final Map<String, Number> constants = new HashMap<>();
    private int fields = 0;

    public static void main(String[] args) throws IOException {
        new LanguageTest().check();
        Check.finish();
    }

    private static void rule(String what, boolean kept) {
        Check.due(what, kept, true);
    }

    private void check() throws IOException {
        JavaCompiler compiler = ToolProvider.getSystemJavaCompiler();
        try (StandardJavaFileManager files = compiler.getStandardFileManager(null, null, null)) {
            JavacTask task = (JavacTask) compiler.getTask(null, files, null, null, null, files.getJavaFileObjects(SOURCE));
            CompilationUnitTree unit = task.parse().iterator().next();
            rule("one class", unit.getTypeDecls().size() == 1);
            ClassTree type = (ClassTree) unit.getTypeDecls().get(0);
            rule("public and final", type.getModifiers().getFlags().equals(EnumSet.of(Modifier.PUBLIC, Modifier.FINAL)));
            rule("of no other class", type.getExtendsClause() == null && type.getImplementsClause().isEmpty());
            for (Tree member : type.getMembers()) {
                if (member instanceof MethodTree method) {
                    method(method, unit, Trees.instance(task));
                } else if (member instanceof VariableTree field) {
                    field(field);
                } else {
                    rule("no member of kind " + member.getKind(), false);
                }
            }
            new Rules().scan(unit, null);
            new Bounds(arrayLengths.keySet()).scan(unit, null);
            constants(task);
        }
        arrayLengths.forEach((name, length) -> rule("the length of " + name + " is 1 or more", lengthOf(length) >= 1));
        rule("the face is " + visible, visible.equals(FACE));
        rule("fields: " + fields, fields <= MOST_FIELDS);
        for (String name : calls.keySet()) {
            int depth = depth(name, MOST_DEPTH);
            rule("calls deep from " + name + ": " + depth, depth <= MOST_DEPTH);
        }
    }

    /** Only the compiler knows which fields are compile-time constants. */
    private void constants(JavacTask task) throws IOException {
        for (Element type : task.analyze()) {
            for (VariableElement field : ElementFilter.fieldsIn(type.getEnclosedElements())) {
                if (field.getModifiers().contains(Modifier.STATIC)) {
                    Object value = field.getConstantValue();
                    rule(field + " is a compile-time constant", value instanceof Number);
                    constants.put(field.toString(), value instanceof Number number ? number : 0);
                }
            }
        }
    }

    /** Of a literal or a constant's name; 0 for anything else. */
    private long lengthOf(String length) {
        return length.matches("\\d{1,9}") ? Long.parseLong(length) : constants.getOrDefault(length, 0).longValue();
    }

    private void method(MethodTree method, CompilationUnitTree unit, Trees trees) {
        String name = method.getName().toString();
        rule("one method named " + name, calls.put(name, new TreeSet<>()) == null);
        rule("parameters of " + name, method.getParameters().size() <= MOST_PARAMETERS);
        LineMap lines = unit.getLineMap();
        long first = lines.getLineNumber(trees.getSourcePositions().getStartPosition(unit, method));
        long last = lines.getLineNumber(trees.getSourcePositions().getEndPosition(unit, method));
        rule("lines of " + name, last - first < MOST_LINES);
        rule(name + " answers no array", !(method.getReturnType() instanceof ArrayTypeTree));
        Set<Modifier> flags = method.getModifiers().getFlags();
        rule(name + " throws nothing", method.getThrows().isEmpty());
        if (flags.contains(Modifier.PRIVATE)) {
            rule(name + " is at most static beside", EnumSet.of(Modifier.PRIVATE, Modifier.STATIC).containsAll(flags));
        } else {
            rule(name + " is public alone", flags.equals(EnumSet.of(Modifier.PUBLIC)));
            String type = method.getReturnType() == null ? "" : method.getReturnType() + " ";
            visible.add(type + name + "(" + method.getParameters() + ")");
        }
        new TreeScanner<Void, Void>() {
            @Override
            public Void visitMethodInvocation(MethodInvocationTree call, Void nothing) {
                calls.get(name).add(call.getMethodSelect().toString());
                return super.visitMethodInvocation(call, nothing);
            }

            @Override
            public Void visitNewArray(NewArrayTree array, Void nothing) {
                rule("no array made in " + name, false);
                return super.visitNewArray(array, nothing);
            }
        }.scan(method.getBody(), null);
    }

    private void field(VariableTree field) {
        Set<Modifier> flags = field.getModifiers().getFlags();
        if (flags.contains(Modifier.STATIC)) {
            rule(field.getName() + " is a constant", flags.contains(Modifier.FINAL) && field.getInitializer() != null);
            rule(field.getName() + " is an int or long", field.getType().toString().matches("int|long"));
        } else {
            fields++;
        }
        if (field.getType() instanceof ArrayTypeTree) {
            rule(field + " is final", flags.contains(Modifier.FINAL));
            arrayLengths.put(field.getName().toString(), lengthIn(field.getInitializer()));
        }
        if (!flags.contains(Modifier.PRIVATE)) {
            rule(field.getName() + " is public", flags.contains(Modifier.PUBLIC) && flags.contains(Modifier.STATIC));
            visible.add(field.getType() + " " + field.getName());
        }
    }

    /** As it is written where the field's array is made. */
    private static String lengthIn(ExpressionTree initializer) {
        boolean told = initializer instanceof NewArrayTree made && made.getDimensions().size() == 1;
        return told ? ((NewArrayTree) initializer).getDimensions().get(0).toString() : "not told";
    }

    /** How deep calls go from a method on, followed only so far that recursion shows as too deep. */
    private int depth(String name, int further) {
        if (further == 0) {
            return 1;
        }
        int deepest = 0;
        for (String called : calls.getOrDefault(name, Set.of())) {
            if (!called.equals("super")) {
                rule(called + " is a method of the class", calls.containsKey(called));
                deepest = Math.max(deepest, depth(called, further - 1));
            }
        }
        return deepest + 1;
    }

    private static final class Rules extends TreeScanner<Void, Void> {
        private int insideArguments = 0;

        @Override
        public Void scan(Tree tree, Void nothing) {
            if (tree != null) {
                rule("no " + tree.getKind() + ": " + tree, !FORBIDDEN.contains(tree.getKind()));
            }
            return super.scan(tree, nothing);
        }

        @Override
        public Void visitVariable(VariableTree variable, Void nothing) {
            Tree type = variable.getType();
            if (type instanceof ArrayTypeTree array) {
                type = array.getType();
            }
            rule("the type of " + variable, type != null && type.getKind() == Tree.Kind.PRIMITIVE_TYPE);
            return super.visitVariable(variable, nothing);
        }

        @Override
        public Void visitPrimitiveType(PrimitiveTypeTree type, Void nothing) {
            TypeKind kind = type.getPrimitiveTypeKind();
            rule("no " + kind, kind != TypeKind.FLOAT && kind != TypeKind.DOUBLE);
            return super.visitPrimitiveType(type, nothing);
        }

        // Without a library there is nothing to select from but this object and an array's length.
        @Override
        public Void visitMemberSelect(MemberSelectTree select, Void nothing) {
            boolean own = select.getExpression().toString().equals("this");
            rule("the selection " + select, own || select.getIdentifier().contentEquals("length"));
            return super.visitMemberSelect(select, nothing);
        }

        @Override
        public Void visitMethodInvocation(MethodInvocationTree call, Void nothing) {
            rule("no call inside arguments: " + call, insideArguments == 0);
            rule("a call by plain name: " + call, call.getMethodSelect() instanceof IdentifierTree);
            insideArguments++;
            for (ExpressionTree argument : call.getArguments()) {
                scan(argument, nothing);
            }
            insideArguments--;
            return null;
        }
    }
}
