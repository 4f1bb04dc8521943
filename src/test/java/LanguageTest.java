import com.sun.source.tree.ArrayTypeTree;
import com.sun.source.tree.ClassTree;
import com.sun.source.tree.CompilationUnitTree;
import com.sun.source.tree.ExpressionTree;
import com.sun.source.tree.ForLoopTree;
import com.sun.source.tree.IdentifierTree;
import com.sun.source.tree.LiteralTree;
import com.sun.source.tree.MemberSelectTree;
import com.sun.source.tree.MethodInvocationTree;
import com.sun.source.tree.MethodTree;
import com.sun.source.tree.NewArrayTree;
import com.sun.source.tree.PrimitiveTypeTree;
import com.sun.source.tree.Tree;
import com.sun.source.tree.Tree.Kind;
import com.sun.source.tree.TypeCastTree;
import com.sun.source.tree.VariableTree;
import com.sun.source.util.JavacTask;
import com.sun.source.util.TreeScanner;
import java.io.IOException;
import java.nio.file.Path;
import java.util.ArrayList;
import java.util.EnumSet;
import java.util.HashSet;
import java.util.List;
import java.util.Map;
import java.util.Set;
import java.util.TreeMap;
import java.util.TreeSet;
import javax.lang.model.element.Modifier;
import javax.lang.model.type.TypeKind;
import javax.tools.JavaCompiler;
import javax.tools.StandardJavaFileManager;
import javax.tools.ToolProvider;

/**
 * The rules of LANGUAGE.md that can be seen from the source of the class, each under its number.
 * Where a rule leaves more than the class needs (arrays made in the constructor, while loops),
 * only the narrower form is let through, since that one is plain to see.
 */
final class LanguageTest extends TreeScanner<Void, Void> {
    private static final Path SOURCE = Path.of("src/main/java/TreeTolerance.java");
    private static final Set<TypeKind> NUMBERS = EnumSet.of(TypeKind.INT, TypeKind.LONG, TypeKind.SHORT,
            TypeKind.BYTE, TypeKind.CHAR, TypeKind.BOOLEAN);
    private static final Set<Kind> LITERALS = EnumSet.of(Kind.INT_LITERAL, Kind.LONG_LITERAL,
            Kind.CHAR_LITERAL, Kind.BOOLEAN_LITERAL);
    private static final Set<Kind> RULED_OUT = EnumSet.of(Kind.THROW, Kind.TRY, Kind.SYNCHRONIZED, Kind.ASSERT,
            Kind.INSTANCE_OF, Kind.LAMBDA_EXPRESSION, Kind.MEMBER_REFERENCE);
    private static final Set<Kind> LOOPS_WITHOUT_STEP = EnumSet.of(Kind.WHILE_LOOP, Kind.DO_WHILE_LOOP,
            Kind.ENHANCED_FOR_LOOP);

    private final Answers answers = new Answers();
    private final Set<String> constants = new HashSet<>();
    /** Each method with the methods that it calls. */
    private final Map<String, Set<String>> calls = new TreeMap<>();
    private String method = "";
    private boolean inArguments = false;

    public static void main(String[] args) throws IOException {
        LanguageTest test = new LanguageTest();
        JavaCompiler compiler = ToolProvider.getSystemJavaCompiler();
        try (StandardJavaFileManager files = compiler.getStandardFileManager(null, null, null)) {
            JavacTask task = (JavacTask) compiler.getTask(null, files, null, null, null,
                    files.getJavaFileObjects(SOURCE));
            for (CompilationUnitTree unit : task.parse()) {
                test.scan(unit, null);
            }
        }
        test.callsEnd();
        test.answers.close();
    }

    private void rule(int number, boolean kept, Object what) {
        answers.due("rule " + number + " is kept by: " + what, kept, true);
    }

    @Override
    public Void scan(Tree tree, Void none) {
        if (tree != null) {
            Kind kind = tree.getKind();
            rule(6, !RULED_OUT.contains(kind), tree);
            rule(8, !LOOPS_WITHOUT_STEP.contains(kind), tree);
            rule(4, kind != Kind.NEW_CLASS, tree);
        }
        return super.scan(tree, none);
    }

    @Override
    public Void visitCompilationUnit(CompilationUnitTree unit, Void none) {
        rule(1, unit.getPackage() == null, "no package line");
        rule(1, unit.getTypeDecls().size() == 1, "one class");
        rule(3, unit.getImports().isEmpty(), "nothing imported");
        return super.visitCompilationUnit(unit, none);
    }

    @Override
    public Void visitClass(ClassTree type, Void none) {
        rule(1, type.getKind() == Kind.CLASS, "class " + type.getSimpleName());
        rule(1, type.getSimpleName().contentEquals("TreeTolerance"), "class " + type.getSimpleName());
        rule(2, type.getExtendsClause() == null && type.getImplementsClause().isEmpty(), "no other class");
        int fields = 0;
        List<String> names = new ArrayList<>();
        for (Tree member : type.getMembers()) {
            rule(5, member.getKind() != Kind.BLOCK, "no initialiser outside the constructor");
            if (member instanceof VariableTree field) {
                fields += isConstant(field) ? 0 : 1;
                visitField(field);
            }
            if (member instanceof MethodTree method) {
                names.add(method.getName().toString());
            }
        }
        rule(1, new TreeSet<>(names).size() == names.size(), "no two methods of one name");
        rule(10, fields <= 40, fields + " fields");
        return super.visitClass(type, none);
    }

    private static boolean isConstant(VariableTree field) {
        return field.getModifiers().getFlags().containsAll(EnumSet.of(Modifier.STATIC, Modifier.FINAL));
    }

    private void visitField(VariableTree field) {
        Set<Modifier> flags = field.getModifiers().getFlags();
        if (flags.contains(Modifier.STATIC)) {
            String type = field.getType().toString();
            rule(5, isConstant(field) && (type.equals("int") || type.equals("long")), field);
            constants.add(field.getName().toString());
        } else {
            rule(1, flags.contains(Modifier.PRIVATE), field);
        }
        if (field.getType() instanceof ArrayTypeTree) {
            rule(4, flags.contains(Modifier.FINAL) && field.getInitializer() instanceof NewArrayTree, field);
        }
    }

    @Override
    public Void visitVariable(VariableTree variable, Void none) {
        rule(2, isAllowed(variable.getType()), variable);
        return super.visitVariable(variable, none);
    }

    private static boolean isAllowed(Tree type) {
        Tree of = type instanceof ArrayTypeTree array ? array.getType() : type;
        return of instanceof PrimitiveTypeTree primitive && NUMBERS.contains(primitive.getPrimitiveTypeKind());
    }

    @Override
    public Void visitMethod(MethodTree declared, Void none) {
        method = declared.getName().toString();
        calls.put(method, new TreeSet<>());
        Tree answer = declared.getReturnType();
        rule(2, answer == null || answer instanceof PrimitiveTypeTree, method + " answers " + answer);
        rule(10, declared.getParameters().size() <= 7, "the parameters of " + method);
        long lines = declared.toString().strip().lines().count();
        rule(10, lines <= 60, method + " of " + lines + " lines");
        super.visitMethod(declared, none);
        method = "";
        return null;
    }

    @Override
    public Void visitNewArray(NewArrayTree made, Void none) {
        rule(4, method.isEmpty() && made.getInitializers() == null, made);
        rule(2, made.getDimensions().size() == 1, made);
        for (ExpressionTree length : made.getDimensions()) {
            rule(4, length.getKind() == Kind.INT_LITERAL || constants.contains(length.toString()), made);
        }
        return super.visitNewArray(made, none);
    }

    @Override
    public Void visitMethodInvocation(MethodInvocationTree call, Void none) {
        rule(3, call.getMethodSelect() instanceof IdentifierTree, call);
        rule(10, !inArguments, call + " in the arguments of another call");
        rule(8, !method.isEmpty(), call + " outside a method");
        if (!method.isEmpty()) {
            calls.get(method).add(call.getMethodSelect().toString());
        }
        boolean before = inArguments;
        inArguments = true;
        scan(call.getArguments(), none);
        inArguments = before;
        return scan(call.getMethodSelect(), none);
    }

    @Override
    public Void visitMemberSelect(MemberSelectTree select, Void none) {
        rule(3, select.getIdentifier().contentEquals("length") || select.getExpression().toString().equals("this"), select);
        return super.visitMemberSelect(select, none);
    }

    @Override
    public Void visitLiteral(LiteralTree literal, Void none) {
        rule(2, LITERALS.contains(literal.getKind()), literal);
        return super.visitLiteral(literal, none);
    }

    @Override
    public Void visitTypeCast(TypeCastTree cast, Void none) {
        rule(6, cast.getType() instanceof PrimitiveTypeTree && isAllowed(cast.getType()), cast);
        return super.visitTypeCast(cast, none);
    }

    @Override
    public Void visitForLoop(ForLoopTree loop, Void none) {
        rule(8, loop.getCondition() != null && !loop.getUpdate().isEmpty(), loop);
        return super.visitForLoop(loop, none);
    }

    /** Follows the calls from each method; a way longer than six is a recursion or goes too deep. */
    private void callsEnd() {
        for (String name : calls.keySet()) {
            Set<String> reached = Set.of(name);
            for (int depth = 1; depth <= 6; depth++) {
                Set<String> next = new TreeSet<>();
                for (String caller : reached) {
                    rule(3, calls.containsKey(caller), caller);
                    next.addAll(calls.getOrDefault(caller, Set.of()));
                }
                rule(8, !next.contains(name), name + " does not come back to itself");
                reached = next;
            }
            rule(10, reached.isEmpty(), "calls from " + name + " go at most six deep");
        }
    }
}
