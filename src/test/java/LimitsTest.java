import com.sun.source.tree.*;
import com.sun.source.util.JavacTask;
import com.sun.source.util.TreePath;
import com.sun.source.util.TreePathScanner;
import java.io.IOException;
import java.io.InputStream;
import java.nio.charset.StandardCharsets;
import java.nio.file.Path;
import java.util.ArrayList;
import java.util.HashSet;
import java.util.List;
import java.util.Map;
import java.util.Set;
import java.util.TreeMap;
import java.util.TreeSet;
import javax.lang.model.element.Modifier;
import javax.lang.model.type.TypeKind;
import javax.tools.JavaCompiler;
import javax.tools.StandardJavaFileManager;
import javax.tools.ToolProvider;

/** The limits on the class, of the document's first lines and of LANGUAGE.md, looked up in the source's syntax tree. */
public final class LimitsTest {
    private static final Path SOURCE = Path.of("src/main/java/PaethFilter.java");
    private static final int DEEPEST = 6;
    private static final int MOST_PARAMETERS = 7;
    private static final int MOST_FIELDS = 40;
    private static final int LONGEST_METHOD = 60;

    /** All that may stand in the source: what is not listed, such as throw, new or a lambda, is refused. */
    private static final Set<Class<? extends Tree>> ALLOWED = Set.of(
        CompilationUnitTree.class, ClassTree.class, MethodTree.class, VariableTree.class, ModifiersTree.class,
        PrimitiveTypeTree.class, ArrayTypeTree.class, NewArrayTree.class, BlockTree.class, IfTree.class,
        ForLoopTree.class, WhileLoopTree.class, DoWhileLoopTree.class, SwitchTree.class, CaseTree.class,
        BreakTree.class, ContinueTree.class, LabeledStatementTree.class, EmptyStatementTree.class, ReturnTree.class,
        ExpressionStatementTree.class, AssignmentTree.class, CompoundAssignmentTree.class, UnaryTree.class,
        BinaryTree.class, ConditionalExpressionTree.class, ParenthesizedTree.class, LiteralTree.class,
        TypeCastTree.class, IdentifierTree.class, MemberSelectTree.class, ArrayAccessTree.class,
        MethodInvocationTree.class);

    private static final Due due = new Due();

    public static void main(String[] args) throws IOException {
        CompilationUnitTree unit = parsed();
        due.holds("no package line", unit.getPackageName() == null);
        due.holds("nothing imported", unit.getImports().isEmpty());
        due.holds("one class in the file", unit.getTypeDecls().size() == 1);
        Names names = new Names();
        names.scan(unit, null);
        new Limits(unit, names).scan(unit, null);
        noPrivateNameIsPublic(names);
        for (String method : names.calls.keySet()) {
            noDeepCalls(names.calls, method, List.of());
        }
        noStaticInitialiser();
        due.end();
    }

    private static CompilationUnitTree parsed() throws IOException {
        JavaCompiler compiler = ToolProvider.getSystemJavaCompiler();
        StandardJavaFileManager files = compiler.getStandardFileManager(null, null, null);
        JavacTask task = (JavacTask) compiler.getTask(null, files, null, null, null, files.getJavaFileObjects(SOURCE));
        return task.parse().iterator().next();
    }

    private static void noPrivateNameIsPublic(Names names) {
        Set<String> both = new TreeSet<>(names.privateMethods);
        both.retainAll(names.publicMethods);
        due.holds("no private method bears a public one's name, not " + both, both.isEmpty());
    }

    /** Follows every chain of calls; a method met twice on one chain is recursion, however many lie between. */
    private static void noDeepCalls(Map<String, Set<String>> calls, String method, List<String> callers) {
        boolean again = callers.contains(method);
        due.holds("no recursion: " + callers + " then " + method, !again);
        due.holds("calls at most six deep: " + callers + " then " + method, callers.size() < DEEPEST);
        if (again || callers.size() >= DEEPEST) {
            return;
        }
        List<String> chain = new ArrayList<>(callers);
        chain.add(method);
        for (String called : calls.getOrDefault(method, Set.of())) {
            noDeepCalls(calls, called, chain);
        }
    }

    /** The compiler makes <clinit> for a static block, and for a static field that is no compile-time constant. */
    private static void noStaticInitialiser() throws IOException {
        try (InputStream in = PaethFilter.class.getResourceAsStream("PaethFilter.class")) {
            String bytes = new String(in.readAllBytes(), StandardCharsets.ISO_8859_1);
            due.holds("the class file was read", bytes.contains("<init>"));
            due.holds("no static initialiser", !bytes.contains("<clinit>"));
        }
    }

    /** Gathers what the source declares and which method calls which. */
    private static final class Names extends TreePathScanner<Void, Void> {
        final Set<String> variables = new HashSet<>();
        final Set<String> constants = new HashSet<>();
        final Set<String> arrays = new HashSet<>();
        final Set<String> publicMethods = new TreeSet<>();
        final Set<String> privateMethods = new TreeSet<>();
        final Map<String, Set<String>> calls = new TreeMap<>();

        @Override
        public Void visitVariable(VariableTree variable, Void nothing) {
            variables.add(variable.getName().toString());
            if (variable.getModifiers().getFlags().containsAll(Set.of(Modifier.STATIC, Modifier.FINAL))) {
                constants.add(variable.getName().toString());
            }
            if (variable.getType() instanceof ArrayTypeTree) {
                arrays.add(variable.getName().toString());
            }
            return super.visitVariable(variable, nothing);
        }

        @Override
        public Void visitMethod(MethodTree method, Void nothing) {
            boolean hidden = method.getModifiers().getFlags().contains(Modifier.PRIVATE);
            (hidden ? privateMethods : publicMethods).add(method.getName().toString());
            return super.visitMethod(method, nothing);
        }

        @Override
        public Void visitMethodInvocation(MethodInvocationTree call, Void nothing) {
            MethodTree caller = methodAround(getCurrentPath());
            String name = caller == null ? "a field's initialiser" : caller.getName().toString();
            calls.computeIfAbsent(name, key -> new TreeSet<>()).add(call.getMethodSelect().toString());
            return super.visitMethodInvocation(call, nothing);
        }
    }

    private static MethodTree methodAround(TreePath path) {
        for (Tree tree : path) {
            if (tree instanceof MethodTree) {
                return (MethodTree) tree;
            }
        }
        return null;
    }

    /** Looks at every node of the source. */
    private static final class Limits extends TreePathScanner<Void, Void> {
        private final CompilationUnitTree unit;
        private final Names names;

        Limits(CompilationUnitTree unit, Names names) {
            this.unit = unit;
            this.names = names;
        }

        private void must(String rule, Tree tree, boolean fact) {
            due.holds(rule + ": " + tree, fact);
        }

        @Override
        public Void scan(Tree tree, Void nothing) {
            if (tree != null) {
                must("allowed in the source", tree, ALLOWED.contains(tree.getKind().asInterface()));
            }
            return super.scan(tree, nothing);
        }

        @Override
        public Void visitClass(ClassTree type, Void nothing) {
            must("no nested class", type, getCurrentPath().getParentPath().getLeaf() == unit);
            long fields = type.getMembers().stream().filter(member -> member instanceof VariableTree).count();
            must("at most forty fields", type, fields - names.constants.size() <= MOST_FIELDS);
            return super.visitClass(type, nothing);
        }

        @Override
        public Void visitBlock(BlockTree block, Void nothing) {
            must("no static initialiser", block, !block.isStatic());
            return super.visitBlock(block, nothing);
        }

        @Override
        public Void visitMethod(MethodTree method, Void nothing) {
            must("at most seven parameters", method, method.getParameters().size() <= MOST_PARAMETERS);
            must("no throws", method, method.getThrows().isEmpty());
            must("no array is answered", method, !(method.getReturnType() instanceof ArrayTypeTree));
            must("short", method, method.toString().strip().lines().count() <= LONGEST_METHOD);
            return super.visitMethod(method, nothing);
        }

        @Override
        public Void visitModifiers(ModifiersTree modifiers, Void nothing) {
            Set<Modifier> flags = modifiers.getFlags();
            must("neither synchronized nor native", modifiers,
                !flags.contains(Modifier.SYNCHRONIZED) && !flags.contains(Modifier.NATIVE));
            return super.visitModifiers(modifiers, nothing);
        }

        @Override
        public Void visitVariable(VariableTree variable, Void nothing) {
            Tree type = variable.getType();
            must("a primitive or an array", variable,
                type instanceof PrimitiveTypeTree || type instanceof ArrayTypeTree);
            if (variable.getModifiers().getFlags().contains(Modifier.STATIC)) {
                must("a constant", variable, names.constants.contains(variable.getName().toString()));
                must("a constant of int or long", variable, isOf(type, TypeKind.INT) || isOf(type, TypeKind.LONG));
            }
            return super.visitVariable(variable, nothing);
        }

        private boolean isOf(Tree type, TypeKind kind) {
            return type instanceof PrimitiveTypeTree && ((PrimitiveTypeTree) type).getPrimitiveTypeKind() == kind;
        }

        @Override
        public Void visitPrimitiveType(PrimitiveTypeTree type, Void nothing) {
            must("neither float nor double", type, !isOf(type, TypeKind.FLOAT) && !isOf(type, TypeKind.DOUBLE));
            return super.visitPrimitiveType(type, nothing);
        }

        @Override
        public Void visitArrayType(ArrayTypeTree type, Void nothing) {
            must("an array of one dimension", type, type.getType() instanceof PrimitiveTypeTree);
            return super.visitArrayType(type, nothing);
        }

        @Override
        public Void visitNewArray(NewArrayTree array, Void nothing) {
            must("an array of one dimension", array,
                array.getType() instanceof PrimitiveTypeTree && array.getDimensions().size() == 1);
            for (ExpressionTree length : array.getDimensions()) {
                must("a literal or constant length", length,
                    length.getKind() == Tree.Kind.INT_LITERAL || names.constants.contains(length.toString()));
            }
            must("made at the start", array, isMadeAtTheStart());
            return super.visitNewArray(array, nothing);
        }

        /** Straight in a field's initialiser, or in a statement of the constructor's own block. */
        private boolean isMadeAtTheStart() {
            TreePath holder = getCurrentPath().getParentPath();
            if (holder.getLeaf() instanceof VariableTree) {
                return holder.getParentPath().getLeaf() instanceof ClassTree;
            }
            TreePath statement = holder.getParentPath();
            MethodTree method = methodAround(statement);
            return holder.getLeaf() instanceof AssignmentTree && method != null
                && method.getName().contentEquals("<init>")
                && statement.getParentPath().getLeaf() == method.getBody();
        }

        @Override
        public Void visitAssignment(AssignmentTree assignment, Void nothing) {
            MethodTree method = methodAround(getCurrentPath());
            boolean atTheStart = method != null && method.getName().contentEquals("<init>");
            must("no array is assigned by a method", assignment, atTheStart || !isArray(assignment.getVariable()));
            return super.visitAssignment(assignment, nothing);
        }

        @Override
        public Void visitBinary(BinaryTree binary, Void nothing) {
            must("no array is compared", binary,
                !isArray(binary.getLeftOperand()) && !isArray(binary.getRightOperand()));
            return super.visitBinary(binary, nothing);
        }

        private boolean isArray(Tree tree) {
            return names.arrays.contains(tree.toString().replace("this.", ""));
        }

        @Override
        public Void visitTypeCast(TypeCastTree cast, Void nothing) {
            must("a cast to a number", cast, cast.getType() instanceof PrimitiveTypeTree);
            return super.visitTypeCast(cast, nothing);
        }

        @Override
        public Void visitLiteral(LiteralTree literal, Void nothing) {
            Set<Tree.Kind> whole = Set.of(Tree.Kind.INT_LITERAL, Tree.Kind.LONG_LITERAL, Tree.Kind.CHAR_LITERAL,
                Tree.Kind.BOOLEAN_LITERAL);
            must("neither text, null nor a fraction", literal, whole.contains(literal.getKind()));
            return super.visitLiteral(literal, nothing);
        }

        /** A name that the source does not declare is another class's, or one that Object hands down. */
        @Override
        public Void visitIdentifier(IdentifierTree identifier, Void nothing) {
            String name = identifier.getName().toString();
            boolean own = names.variables.contains(name) || names.privateMethods.contains(name)
                || names.publicMethods.contains(name) || name.equals("this");
            must("declared in the class itself", identifier, own);
            return super.visitIdentifier(identifier, nothing);
        }

        @Override
        public Void visitMemberSelect(MemberSelectTree select, Void nothing) {
            boolean ownMember = select.getExpression().toString().equals("this");
            must("a member of the class itself", select, ownMember || select.getIdentifier().contentEquals("length"));
            return super.visitMemberSelect(select, nothing);
        }

        @Override
        public Void visitMethodInvocation(MethodInvocationTree call, Void nothing) {
            must("called by its plain name", call, call.getMethodSelect() instanceof IdentifierTree);
            for (Tree around : getCurrentPath().getParentPath()) {
                must("no call inside another's arguments", call, !(around instanceof MethodInvocationTree));
            }
            return super.visitMethodInvocation(call, nothing);
        }
    }
}
