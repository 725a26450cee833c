import com.sun.source.tree.ArrayTypeTree;
import com.sun.source.tree.AssignmentTree;
import com.sun.source.tree.BinaryTree;
import com.sun.source.tree.BlockTree;
import com.sun.source.tree.ClassTree;
import com.sun.source.tree.CompilationUnitTree;
import com.sun.source.tree.CompoundAssignmentTree;
import com.sun.source.tree.ExpressionStatementTree;
import com.sun.source.tree.ExpressionTree;
import com.sun.source.tree.ForLoopTree;
import com.sun.source.tree.IdentifierTree;
import com.sun.source.tree.LiteralTree;
import com.sun.source.tree.MethodInvocationTree;
import com.sun.source.tree.MethodTree;
import com.sun.source.tree.NewArrayTree;
import com.sun.source.tree.PrimitiveTypeTree;
import com.sun.source.tree.StatementTree;
import com.sun.source.tree.Tree;
import com.sun.source.tree.Tree.Kind;
import com.sun.source.tree.TypeCastTree;
import com.sun.source.tree.UnaryTree;
import com.sun.source.tree.VariableTree;
import com.sun.source.util.JavacTask;
import com.sun.source.util.SourcePositions;
import com.sun.source.util.TreeScanner;
import com.sun.source.util.Trees;
import java.io.IOException;
import java.net.URI;
import java.nio.file.Files;
import java.nio.file.Path;
import java.util.ArrayList;
import java.util.EnumSet;
import java.util.HashMap;
import java.util.HashSet;
import java.util.List;
import java.util.Map;
import java.util.Set;
import java.util.TreeSet;
import javax.lang.model.element.Modifier;
import javax.lang.model.type.TypeKind;
import javax.tools.JavaCompiler;
import javax.tools.JavaFileObject;
import javax.tools.SimpleJavaFileObject;
import javax.tools.ToolProvider;

// The rules of LANGUAGE.md that show in the source text alone; FaceTest has those on members.
// Where the class needs less than a rule leaves, the test asks for less: a while loop, a division
// or an array made in the constructor may be right, but it takes more than a look to see that.
public final class LanguageTest {
    private static final Path SOURCE = Path.of("src/main/java/AriesEngine.java");
    private static final int MOST_LINES = 60;
    private static final int MOST_DEEP = 6;

    private static final Set<Kind> LEFT = EnumSet.of(
        Kind.COMPILATION_UNIT, Kind.CLASS, Kind.METHOD, Kind.VARIABLE, Kind.MODIFIERS, Kind.PRIMITIVE_TYPE,
        Kind.ARRAY_TYPE, Kind.NEW_ARRAY, Kind.ARRAY_ACCESS, Kind.METHOD_INVOCATION, Kind.IDENTIFIER,
        Kind.INT_LITERAL, Kind.LONG_LITERAL, Kind.CHAR_LITERAL, Kind.BOOLEAN_LITERAL, Kind.PARENTHESIZED,
        Kind.TYPE_CAST, Kind.CONDITIONAL_EXPRESSION, Kind.BLOCK, Kind.EXPRESSION_STATEMENT, Kind.RETURN,
        Kind.IF, Kind.FOR_LOOP, Kind.SWITCH, Kind.CASE, Kind.BREAK, Kind.CONTINUE, Kind.LABELED_STATEMENT,
        Kind.ASSIGNMENT, Kind.PLUS_ASSIGNMENT, Kind.MINUS_ASSIGNMENT, Kind.MULTIPLY_ASSIGNMENT,
        Kind.AND_ASSIGNMENT, Kind.OR_ASSIGNMENT, Kind.XOR_ASSIGNMENT, Kind.LEFT_SHIFT_ASSIGNMENT,
        Kind.RIGHT_SHIFT_ASSIGNMENT, Kind.UNSIGNED_RIGHT_SHIFT_ASSIGNMENT, Kind.POSTFIX_INCREMENT,
        Kind.POSTFIX_DECREMENT, Kind.PREFIX_INCREMENT, Kind.PREFIX_DECREMENT, Kind.UNARY_PLUS,
        Kind.UNARY_MINUS, Kind.BITWISE_COMPLEMENT, Kind.LOGICAL_COMPLEMENT, Kind.PLUS, Kind.MINUS,
        Kind.MULTIPLY, Kind.LEFT_SHIFT, Kind.RIGHT_SHIFT, Kind.UNSIGNED_RIGHT_SHIFT, Kind.LESS_THAN,
        Kind.LESS_THAN_EQUAL, Kind.GREATER_THAN, Kind.GREATER_THAN_EQUAL, Kind.EQUAL_TO, Kind.NOT_EQUAL_TO,
        Kind.AND, Kind.OR, Kind.XOR, Kind.CONDITIONAL_AND, Kind.CONDITIONAL_OR);
    private static final Set<Kind> COUNTING = EnumSet.of(
        Kind.POSTFIX_INCREMENT, Kind.POSTFIX_DECREMENT, Kind.PREFIX_INCREMENT, Kind.PREFIX_DECREMENT);
    private static final Set<TypeKind> NUMBERS = EnumSet.of(
        TypeKind.INT, TypeKind.LONG, TypeKind.SHORT, TypeKind.BYTE, TypeKind.CHAR, TypeKind.BOOLEAN);

    private static final class Text extends SimpleJavaFileObject {
        private final String text;

        Text(String text) {
            super(URI.create("string:///AriesEngine.java"), JavaFileObject.Kind.SOURCE);
            this.text = text;
        }

        @Override
        public CharSequence getCharContent(boolean ignoreErrors) {
            return text;
        }
    }

    private static final class Reader extends TreeScanner<Void, Void> {
        final List<String> faults = new ArrayList<>();
        private final CompilationUnitTree unit;
        private final SourcePositions positions;
        private final Set<String> methods = new HashSet<>();
        private final Set<String> constants = new HashSet<>();
        private final Set<String> arrays = new HashSet<>();
        private final Map<String, Set<String>> calls = new HashMap<>();
        private String inMethod = "";

        Reader(CompilationUnitTree unit, SourcePositions positions) {
            this.unit = unit;
            this.positions = positions;
        }

        private long line(long position) {
            return unit.getLineMap().getLineNumber(position);
        }

        private void check(boolean fine, int rule, String fault, Tree at) {
            if (!fine) {
                faults.add("rule " + rule + ", line " + line(positions.getStartPosition(unit, at)) + ": " + fault);
            }
        }

        void readAll() {
            check(unit.getPackage() == null, 1, "package", unit);
            check(unit.getImports().isEmpty(), 3, "import", unit);
            check(unit.getTypeDecls().size() == 1, 1, "more than one class", unit);
            collectNames();
            scan(unit, null);
            for (String method : methods) {
                int deep = deepest(method, new HashSet<>());
                check(deep >= 0, 8, "recursion of " + method, unit);
                check(deep <= MOST_DEEP, 10, "calls " + deep + " deep from " + method, unit);
            }
        }

        private void collectNames() {
            new TreeScanner<Void, Void>() {
                @Override
                public Void visitMethod(MethodTree m, Void none) {
                    methods.add(m.getName().toString());
                    return super.visitMethod(m, none);
                }

                @Override
                public Void visitVariable(VariableTree v, Void none) {
                    if (v.getModifiers().getFlags().contains(Modifier.STATIC)) {
                        constants.add(v.getName().toString());
                    }
                    if (v.getType() instanceof ArrayTypeTree) {
                        arrays.add(v.getName().toString());
                    }
                    return super.visitVariable(v, none);
                }
            }.scan(unit, null);
        }

        // How many calls stand on one another, this one among them; -1 if one comes round again.
        private int deepest(String method, Set<String> path) {
            if (!path.add(method)) {
                return -1;
            }
            int below = 0;
            for (String next : calls.getOrDefault(method, Set.of())) {
                int deep = deepest(next, path);
                if (deep < 0) {
                    return -1;
                }
                below = Math.max(below, deep);
            }
            path.remove(method);
            return below + 1;
        }

        @Override
        public Void scan(Tree tree, Void none) {
            if (tree != null) {
                check(LEFT.contains(tree.getKind()), ruleAgainst(tree.getKind()), "no " + tree.getKind(), tree);
            }
            return super.scan(tree, none);
        }

        private int ruleAgainst(Kind kind) {
            return switch (kind) {
                case INTERFACE, ENUM, RECORD, ANNOTATION_TYPE -> 1;
                case STRING_LITERAL, FLOAT_LITERAL, DOUBLE_LITERAL -> 2;
                case MEMBER_SELECT, IMPORT, ANNOTATION, PARAMETERIZED_TYPE -> 3;
                case NEW_CLASS, NULL_LITERAL -> 4;
                case DIVIDE, REMAINDER, DIVIDE_ASSIGNMENT, REMAINDER_ASSIGNMENT -> 7;
                case WHILE_LOOP, DO_WHILE_LOOP, ENHANCED_FOR_LOOP -> 8;
                default -> 6;
            };
        }

        @Override
        public Void visitClass(ClassTree c, Void none) {
            for (Tree member : c.getMembers()) {
                check(!(member instanceof BlockTree), 5, "initialiser block", member);
                check(!(member instanceof ClassTree), 1, "nested class", member);
                if (member instanceof VariableTree field) {
                    checkField(field);
                }
            }
            return super.visitClass(c, none);
        }

        private void checkField(VariableTree field) {
            Set<Modifier> flags = field.getModifiers().getFlags();
            boolean isArray = field.getType() instanceof ArrayTypeTree;
            if (flags.contains(Modifier.STATIC)) {
                check(flags.contains(Modifier.FINAL) && isConstant(field.getInitializer()), 5, "not a constant", field);
            }
            // Being final keeps every method from assigning to it.
            check(!isArray || flags.contains(Modifier.FINAL), 4, "array field that is not final", field);
            check(!isArray || isPlainArray(field.getInitializer()), 4, "array of no constant length", field);
        }

        private boolean isConstant(ExpressionTree value) {
            if (value instanceof LiteralTree) {
                return true;
            }
            if (value instanceof IdentifierTree name) {
                return constants.contains(name.getName().toString());
            }
            if (value instanceof UnaryTree one && !COUNTING.contains(value.getKind())) {
                return isConstant(one.getExpression());
            }
            return value instanceof BinaryTree two && isConstant(two.getLeftOperand()) && isConstant(two.getRightOperand());
        }

        private boolean isPlainArray(ExpressionTree value) {
            if (!(value instanceof NewArrayTree made) || made.getDimensions().size() != 1 || made.getInitializers() != null) {
                return false;
            }
            ExpressionTree length = made.getDimensions().get(0);
            if (length instanceof LiteralTree literal) {
                return literal.getValue() instanceof Integer n && n >= 1;
            }
            return length instanceof IdentifierTree && isConstant(length);
        }

        @Override
        public Void visitNewArray(NewArrayTree made, Void none) {
            check(inMethod.isEmpty(), 4, "array made in a method", made);
            return super.visitNewArray(made, none);
        }

        private boolean isNumber(Tree type) {
            return type instanceof PrimitiveTypeTree p && NUMBERS.contains(p.getPrimitiveTypeKind());
        }

        @Override
        public Void visitVariable(VariableTree v, Void none) {
            boolean isArray = v.getType() instanceof ArrayTypeTree;
            Tree single = isArray ? ((ArrayTypeTree) v.getType()).getType() : v.getType();
            check(isNumber(single), 2, "type of " + v.getName(), v);
            check(!isArray || inMethod.isEmpty() || v.getInitializer() == null, 4, "local array", v);
            return super.visitVariable(v, none);
        }

        @Override
        public Void visitTypeCast(TypeCastTree cast, Void none) {
            check(isNumber(cast.getType()), 6, "cast", cast);
            return super.visitTypeCast(cast, none);
        }

        @Override
        public Void visitMethod(MethodTree m, Void none) {
            inMethod = m.getName().toString();
            boolean answersNothing = m.getReturnType() == null
                || m.getReturnType() instanceof PrimitiveTypeTree p && p.getPrimitiveTypeKind() == TypeKind.VOID;
            check(answersNothing || isNumber(m.getReturnType()), 2, "answer of " + inMethod, m);
            check(m.getThrows().isEmpty(), 6, "throws", m);
            long lines = line(positions.getEndPosition(unit, m)) - line(positions.getStartPosition(unit, m)) + 1;
            check(lines <= MOST_LINES, 10, lines + " lines in " + inMethod, m);
            check(m.getParameters().size() <= 7, 10, "parameters of " + inMethod, m);
            super.visitMethod(m, none);
            inMethod = "";
            return null;
        }

        @Override
        public Void visitMethodInvocation(MethodInvocationTree call, Void none) {
            boolean isOwn = call.getMethodSelect() instanceof IdentifierTree name && methods.contains(name.getName().toString());
            check(isOwn, 3, "call of " + call.getMethodSelect(), call);
            calls.computeIfAbsent(inMethod, m -> new TreeSet<>()).add(call.getMethodSelect().toString());
            for (ExpressionTree argument : call.getArguments()) {
                check(!hasCall(argument), 10, "call inside arguments", call);
            }
            return super.visitMethodInvocation(call, none);
        }

        private boolean hasCall(Tree tree) {
            boolean[] found = {false};
            new TreeScanner<Void, Void>() {
                @Override
                public Void visitMethodInvocation(MethodInvocationTree call, Void none) {
                    found[0] = true;
                    return null;
                }
            }.scan(tree, null);
            return found[0];
        }

        @Override
        public Void visitBinary(BinaryTree b, Void none) {
            boolean compares = b.getKind() == Kind.EQUAL_TO || b.getKind() == Kind.NOT_EQUAL_TO;
            check(!compares || !isArrayName(b.getLeftOperand()) && !isArrayName(b.getRightOperand()), 4, "array compared", b);
            return super.visitBinary(b, none);
        }

        private boolean isArrayName(Tree tree) {
            return tree instanceof IdentifierTree name && arrays.contains(name.getName().toString());
        }

        @Override
        public Void visitAssignment(AssignmentTree a, Void none) {
            check(!isArrayName(a.getVariable()), 4, "array assigned", a);
            return super.visitAssignment(a, none);
        }

        @Override
        public Void visitForLoop(ForLoopTree loop, Void none) {
            check(isCounted(loop), 8, "loop without a counter against a bound", loop);
            return super.visitForLoop(loop, none);
        }

        // for (int i = a; i < b; i++) or for (int i = a; i >= b; i--), with i and b left alone inside.
        private boolean isCounted(ForLoopTree loop) {
            if (loop.getInitializer().size() != 1 || loop.getUpdate().size() != 1
                || !(loop.getInitializer().get(0) instanceof VariableTree counter)
                || !(loop.getCondition() instanceof BinaryTree test)) {
                return false;
            }
            String name = counter.getName().toString();
            Tree bound = test.getRightOperand();
            boolean up = test.getKind() == Kind.LESS_THAN && isStep(loop.getUpdate().get(0), name, "++");
            boolean down = test.getKind() == Kind.GREATER_THAN_EQUAL && isStep(loop.getUpdate().get(0), name, "--");
            return (up || down)
                && test.getLeftOperand().toString().equals(name)
                && (bound instanceof LiteralTree || bound instanceof IdentifierTree)
                && !changes(loop.getStatement(), name)
                && !changes(loop.getStatement(), bound.toString());
        }

        private boolean isStep(ExpressionStatementTree update, String name, String sign) {
            String step = update.getExpression().toString();
            return step.equals(name + sign) || step.equals(sign + name);
        }

        private boolean changes(StatementTree body, String name) {
            boolean[] found = {false};
            new TreeScanner<Void, Void>() {
                private void note(Tree changed) {
                    found[0] |= changed.toString().equals(name);
                }

                @Override
                public Void visitAssignment(AssignmentTree a, Void none) {
                    note(a.getVariable());
                    return super.visitAssignment(a, none);
                }

                @Override
                public Void visitCompoundAssignment(CompoundAssignmentTree a, Void none) {
                    note(a.getVariable());
                    return super.visitCompoundAssignment(a, none);
                }

                @Override
                public Void visitUnary(UnaryTree u, Void none) {
                    if (COUNTING.contains(u.getKind())) {
                        note(u.getExpression());
                    }
                    return super.visitUnary(u, none);
                }
            }.scan(body, null);
            return found[0];
        }
    }

    private static List<String> faultsOf(String source) throws IOException {
        JavaCompiler compiler = ToolProvider.getSystemJavaCompiler();
        JavacTask task = (JavacTask) compiler.getTask(null, null, d -> { }, null, null, List.of(new Text(source)));
        CompilationUnitTree unit = task.parse().iterator().next();
        Reader reader = new Reader(unit, Trees.instance(task).getSourcePositions());
        reader.readAll();
        return reader.faults;
    }

    // Members of a class that break one rule each, so that the test itself is seen to refuse them.
    private static final String[][] BROKEN = {
        {"rule 1", "private record Pair(int a) { }"},
        {"rule 1", "private static final class Inner { }"},
        {"rule 1", "private enum Color { RED }"},
        {"rule 2", "private double f() { return 0; }"},
        {"rule 2", "private float x;"},
        {"rule 2", "private void f(String s) { }"},
        {"rule 2", "private final int[][] x = new int[2][2];"},
        {"rule 2", "private int f() { return \"abc\" == \"abc\" ? 1 : 0; }"},
        {"rule 2", "private void f() { var x = 1; }"},
        {"rule 2", "private int[] f(int[] a) { return a; }"},
        {"rule 3", "private int f(int a) { return Math.abs(a); }"},
        {"rule 3", "private int f() { return hashCode(); }"},
        {"rule 3", "private int f(int a) { return a < Integer.MAX_VALUE ? 1 : 0; }"},
        {"rule 3", "@Deprecated private int f() { return 1; }"},
        {"rule 4", "private final int[] x = new int[0];"},
        {"rule 4", "private final int[] x = {1, 2};"},
        {"rule 4", "private final int n = 3; private final int[] x = new int[n];"},
        {"rule 4", "private int[] x = new int[3];"},
        {"rule 4", "private void f() { int[] x = new int[3]; }"},
        {"rule 4", "private final int[] x = new int[3]; private void f() { int[] y = x; }"},
        {"rule 4", "private boolean f(int[] a, int[] b) { return a == b; }"},
        {"rule 4", "private boolean f(int[] a) { return a != null; }"},
        {"rule 4", "private void f() { new AriesEngine(1); }"},
        {"rule 5", "private static final int[] X = new int[3];"},
        {"rule 5", "private static int x = 3;"},
        {"rule 5", "private static final int X = f(); private static int f() { return 1; }"},
        {"rule 5", "static { }"},
        {"rule 6", "private void f() { throw null; }"},
        {"rule 6", "private void f() { try { return; } finally { } }"},
        {"rule 6", "private void f() { synchronized (this) { } }"},
        {"rule 6", "private void f(int a) { assert a > 0; }"},
        {"rule 6", "private boolean f() { return this instanceof AriesEngine; }"},
        {"rule 6", "private void f() { g(() -> 1); } private void g(int a) { }"},
        {"rule 6", "private void f(int a) { a = (Integer) a; }"},
        {"rule 6", "private void f() throws Exception { }"},
        {"rule 7", "private int f(int a, int b) { return a / b; }"},
        {"rule 7", "private int f(int a, int b) { return a % b; }"},
        {"rule 8", "private int f(int a) { return f(a - 1); }"},
        {"rule 8", "private void f() { g(); } private void g() { h(); } private void h() { f(); }"},
        {"rule 8", "private void f() { while (true) { } }"},
        {"rule 8", "private void f() { for (;;) { } }"},
        {"rule 8", "private void f(int a) { for (int i = 0; i < a; i++) { i--; } }"},
        {"rule 8", "private void f(int a) { for (int i = 0; i < a; i++) { a += 1; } }"},
        {"rule 8", "private void f(int a) { for (int i = 0; i < a; i--) { } }"},
        {"rule 8", "private void f(int a, int b) { for (int i = 0; i < a; b++) { } }"},
        {"rule 10", "private void f(int a, int b, int c, int d, int e, int g, int h, int i) { }"},
        {"rule 10", "private int f(int a) { return g(g(a)); } private int g(int a) { return a; }"},
        {"rule 10", "private int f(int a) { return g(1 + (a > 0 ? h() : 0)); } private int g(int a) { return a; }"
            + " private int h() { return 1; }"},
        {"rule 10", "private void f() {" + "\n".repeat(60) + "}"},
        {"rule 10", "private void a() { b(); } private void b() { c(); } private void c() { d(); }"
            + " private void d() { e(); } private void e() { f(); } private void f() { g(); } private void g() { }"},
    };

    private static final String[] WHOLE = {
        "private static final int A = 3; private static final long B = -A * 2L; private final int[] x = new int[A];",
        "private final boolean[] x = new boolean[1]; private void f(int t) { if (t == 0) { x[t] = !x[t]; } }",
        "private int f(int a) { int n = 0; for (int i = a; i >= 0; i--) { n += i; } return n; }",
        "private void f(int[] a) { a[0] = (byte) a[1]; }",
        "private int f(int a) { switch (a) { case 1: return 2; default: return 3; } }",
        "private int f(int a) { return g(a) + g(a + 1); } private int g(int a) { return a; }",
        "private void f() {" + "\n".repeat(59) + "}",
        "private void a() { b(); } private void b() { c(); } private void c() { d(); }"
            + " private void d() { e(); } private void e() { f(); } private void f() { }",
    };

    private static int wrong = 0;

    private static void fault(String what) {
        wrong++;
        System.out.println(what);
    }

    private static String around(String members) {
        return "public final class AriesEngine {\n" + members + "\n}\n";
    }

    private static void checkItself() throws IOException {
        for (String[] row : BROKEN) {
            if (faultsOf(around(row[1])).stream().noneMatch(f -> f.startsWith(row[0] + ","))) {
                fault("the test does not see that " + row[0] + " is broken: " + row[1]);
            }
        }
        for (String members : WHOLE) {
            for (String f : faultsOf(around(members))) {
                fault("the test refuses what breaks no rule: " + f + ": " + members);
            }
        }
        for (String start : new String[] {"package a; ", "import java.util.List; ", "final class B { } "}) {
            if (faultsOf(start + around("")).isEmpty()) {
                fault("the test does not see: " + start);
            }
        }
    }

    public static void main(String[] args) throws IOException {
        checkItself();
        faultsOf(Files.readString(SOURCE)).forEach(LanguageTest::fault);
        System.out.println(wrong == 0 ? "the source keeps to the rules" : wrong + " faults");
        if (wrong != 0) {
            System.exit(1);
        }
    }
}
