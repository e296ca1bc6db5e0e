import com.sun.source.tree.ArrayTypeTree;
import com.sun.source.tree.AssertTree;
import com.sun.source.tree.AssignmentTree;
import com.sun.source.tree.BinaryTree;
import com.sun.source.tree.BlockTree;
import com.sun.source.tree.ClassTree;
import com.sun.source.tree.CompilationUnitTree;
import com.sun.source.tree.CompoundAssignmentTree;
import com.sun.source.tree.DoWhileLoopTree;
import com.sun.source.tree.EnhancedForLoopTree;
import com.sun.source.tree.ExpressionStatementTree;
import com.sun.source.tree.ExpressionTree;
import com.sun.source.tree.ForLoopTree;
import com.sun.source.tree.IdentifierTree;
import com.sun.source.tree.InstanceOfTree;
import com.sun.source.tree.LambdaExpressionTree;
import com.sun.source.tree.LiteralTree;
import com.sun.source.tree.MemberReferenceTree;
import com.sun.source.tree.MemberSelectTree;
import com.sun.source.tree.MethodInvocationTree;
import com.sun.source.tree.MethodTree;
import com.sun.source.tree.NewArrayTree;
import com.sun.source.tree.NewClassTree;
import com.sun.source.tree.ParenthesizedTree;
import com.sun.source.tree.PrimitiveTypeTree;
import com.sun.source.tree.SynchronizedTree;
import com.sun.source.tree.ThrowTree;
import com.sun.source.tree.Tree;
import com.sun.source.tree.Tree.Kind;
import com.sun.source.tree.TryTree;
import com.sun.source.tree.TypeCastTree;
import com.sun.source.tree.UnaryTree;
import com.sun.source.tree.VariableTree;
import com.sun.source.tree.WhileLoopTree;
import com.sun.source.util.JavacTask;
import com.sun.source.util.SourcePositions;
import com.sun.source.util.TreeScanner;
import com.sun.source.util.Trees;
import java.io.IOException;
import java.net.URI;
import java.nio.file.Files;
import java.nio.file.Path;
import java.util.ArrayList;
import java.util.HashMap;
import java.util.HashSet;
import java.util.List;
import java.util.Map;
import java.util.Set;
import java.util.TreeMap;
import java.util.TreeSet;
import javax.lang.model.element.Modifier;
import javax.lang.model.type.TypeKind;
import javax.tools.JavaCompiler;
import javax.tools.JavaFileObject;
import javax.tools.SimpleJavaFileObject;
import javax.tools.ToolProvider;

/**
 * The text of the class, held against what can be read off it of the rules of LANGUAGE.md. Where a rule leaves more
 * than the class uses, this test is the stricter one: arrays are made in the fields' initialisers alone and bear no
 * other name, and all loops are for loops with a counter. That no call throws (rule 7) is held by the other tests,
 * but for the divisors; the face (rule 1) by FaceTest.
 */
public final class LanguageTest {
    private static final String SOURCE = "src/main/java/TrieJoins.java";
    private static final int MOST_PARAMETERS = 7;
    private static final int MOST_LINES = 60;
    private static final int DEEPEST = 6;
    private static final int MOST_FIELDS = 40;

    private static int wrong = 0;

    /** Goes through a source once and notes each breach as "rule: what, line". */
    private static final class Reader extends TreeScanner<Void, Void> {
        final List<String> faults = new ArrayList<>();
        private final Map<String, Long> constants = new HashMap<>();
        private final Set<String> fields = new HashSet<>();
        private final Set<String> openMethods = new HashSet<>();
        private final Map<String, Set<String>> calls = new TreeMap<>();
        private final CompilationUnitTree unit;
        private final SourcePositions positions;
        private Tree allowedArray = null;
        private String method = null;
        private boolean inClass = false;

        Reader(CompilationUnitTree unit, SourcePositions positions) {
            this.unit = unit;
            this.positions = positions;
        }

        private long line(Tree t) {
            return unit.getLineMap().getLineNumber(positions.getStartPosition(unit, t));
        }

        private long lines(Tree t) {
            return unit.getLineMap().getLineNumber(positions.getEndPosition(unit, t)) - line(t) + 1;
        }

        private void hold(boolean kept, int rule, String what, Tree where) {
            if (!kept) {
                faults.add(rule + ": " + what + ", line " + line(where));
            }
        }

        void read() {
            hold(unit.getPackageName() == null, 1, "a package line", unit);
            hold(unit.getImports().isEmpty(), 3, "an import", unit);
            hold(unit.getTypeDecls().size() == 1, 1, "more than one class", unit);
            scan(unit, null);
            for (String start : calls.keySet()) {
                int deep = depth(start, new HashSet<>());
                hold(deep <= DEEPEST, 10, "calls from " + start + " go " + deep + " deep", unit);
            }
        }

        /** How many methods a chain of calls has, the first one included. */
        private int depth(String start, Set<String> above) {
            if (!above.add(start)) {
                hold(false, 8, start + " comes back to itself", unit);
                return 0;
            }
            int deepest = 0;
            for (String next : calls.getOrDefault(start, Set.of())) {
                deepest = Math.max(deepest, depth(next, above));
            }
            above.remove(start);
            return deepest + 1;
        }

        private void gather(ClassTree c) {
            for (Tree member : c.getMembers()) {
                if (member instanceof MethodTree m) {
                    calls.put(m.getName().toString(), new TreeSet<>());
                    if (!m.getModifiers().getFlags().contains(Modifier.PRIVATE)) {
                        openMethods.add(m.getName().toString());
                    }
                } else if (member instanceof VariableTree v) {
                    if (v.getModifiers().getFlags().contains(Modifier.STATIC)) {
                        readConstant(v);
                    } else {
                        fields.add(v.getName().toString());
                    }
                }
            }
        }

        private void readConstant(VariableTree v) {
            Long value = valueOf(v.getInitializer());
            boolean isFinal = v.getModifiers().getFlags().contains(Modifier.FINAL);
            String type = v.getType().toString();
            hold(isFinal && value != null && (type.equals("int") || type.equals("long")), 5,
                "static " + v.getName() + " is no constant of int or long", v);
            if (isFinal && value != null) {
                constants.put(v.getName().toString(), value);
            }
        }

        /** What a constant expression comes to; null if it is none that this test knows. */
        private Long valueOf(Tree t) {
            if (t instanceof LiteralTree l && l.getValue() instanceof Number n) {
                return n.longValue();
            }
            if (t instanceof IdentifierTree i) {
                return constants.get(i.getName().toString());
            }
            if (t instanceof UnaryTree u && u.getKind() == Kind.UNARY_MINUS) {
                Long of = valueOf(u.getExpression());
                return of == null ? null : -of;
            }
            if (t instanceof BinaryTree b) {
                Long left = valueOf(b.getLeftOperand());
                Long right = valueOf(b.getRightOperand());
                if (left == null || right == null) {
                    return null;
                }
                return switch (b.getKind()) {
                    case PLUS -> left + right;
                    case MINUS -> left - right;
                    case MULTIPLY -> left * right;
                    default -> null;
                };
            }
            return null;
        }

        private boolean isWholeNumber(Tree type) {
            return type instanceof PrimitiveTypeTree p && p.getPrimitiveTypeKind() != TypeKind.FLOAT
                && p.getPrimitiveTypeKind() != TypeKind.DOUBLE && p.getPrimitiveTypeKind() != TypeKind.VOID;
        }

        @Override
        public Void visitClass(ClassTree c, Void none) {
            hold(!inClass && c.getKind() == Kind.CLASS, 1, "a nested type, or another one than a class", c);
            if (inClass) {
                return super.visitClass(c, none);
            }
            inClass = true;
            gather(c);
            hold(fields.size() <= MOST_FIELDS, 10, fields.size() + " fields", c);
            for (Tree member : c.getMembers()) {
                if (member instanceof VariableTree v) {
                    readField(v);
                } else {
                    hold(!(member instanceof BlockTree), 5, "an initialiser that stands by itself", member);
                    scan(member, none);
                }
            }
            return null;
        }

        private void readField(VariableTree v) {
            if (v.getType() instanceof ArrayTypeTree a) {
                hold(isWholeNumber(a.getType()), 2, "an array of " + a.getType(), v);
                hold(v.getModifiers().getFlags().contains(Modifier.FINAL), 4, "an array field that isn't final", v);
                allowedArray = v.getInitializer();
            } else {
                hold(isWholeNumber(v.getType()), 2, "a field of " + v.getType(), v);
            }
            scan(v.getInitializer(), null);
            allowedArray = null;
        }

        @Override
        public Void visitVariable(VariableTree v, Void none) {
            hold(!(v.getType() instanceof ArrayTypeTree), 4, "an array by another name than its field's", v);
            hold(isWholeNumber(v.getType()), 2, "a variable of " + v.getType(), v);
            return super.visitVariable(v, none);
        }

        @Override
        public Void visitMethod(MethodTree m, Void none) {
            method = m.getName().toString();
            boolean isPrivate = m.getModifiers().getFlags().contains(Modifier.PRIVATE);
            Tree type = m.getReturnType();
            hold(!isPrivate || !openMethods.contains(method), 1, "private " + method + " has an open one's name", m);
            hold(m.getParameters().size() <= MOST_PARAMETERS, 10, "the parameters of " + method, m);
            hold(lines(m) <= MOST_LINES, 10, "the length of " + method, m);
            hold(m.getThrows().isEmpty(), 6, "the throws of " + method, m);
            hold(!(type instanceof ArrayTypeTree), 4, method + " answers an array", m);
            hold(type == null || type.toString().equals("void") || isWholeNumber(type), 2, method + " answers", m);
            super.visitMethod(m, none);
            method = null;
            return null;
        }

        @Override
        public Void visitNewArray(NewArrayTree n, Void none) {
            boolean plain = n == allowedArray && n.getInitializers() == null && n.getDimensions().size() == 1;
            Long length = plain ? valueOf(n.getDimensions().get(0)) : null;
            hold(length != null && length >= 1, 4, "how or where an array is made", n);
            return super.visitNewArray(n, none);
        }

        @Override
        public Void visitNewClass(NewClassTree n, Void none) {
            hold(false, 4, "an object is made", n);
            return super.visitNewClass(n, none);
        }

        @Override
        public Void visitLiteral(LiteralTree l, Void none) {
            Object value = l.getValue();
            hold(value != null, 4, "null", l);
            hold(!(value instanceof String || value instanceof Double || value instanceof Float), 2, "" + value, l);
            return super.visitLiteral(l, none);
        }

        @Override
        public Void visitMemberSelect(MemberSelectTree s, Void none) {
            hold(s.getIdentifier().contentEquals("length"), 3, s + "", s);
            return super.visitMemberSelect(s, none);
        }

        @Override
        public Void visitMethodInvocation(MethodInvocationTree call, Void none) {
            String name = call.getMethodSelect().toString();
            hold(calls.containsKey(name), 3, name + " is called, which is no method of the class", call);
            if (method != null && calls.containsKey(name)) {
                calls.get(method).add(name);
            }
            for (Tree argument : call.getArguments()) {
                hold(!hasCall(argument), 10, "a call inside the arguments of " + name, call);
            }
            return super.visitMethodInvocation(call, none);
        }

        private static boolean hasCall(Tree t) {
            boolean[] found = {false};
            new TreeScanner<Void, Void>() {
                @Override
                public Void visitMethodInvocation(MethodInvocationTree call, Void none) {
                    found[0] = true;
                    return null;
                }
            }.scan(t, null);
            return found[0];
        }

        @Override
        public Void visitBinary(BinaryTree b, Void none) {
            if (b.getKind() == Kind.DIVIDE || b.getKind() == Kind.REMAINDER) {
                holdDivisor(b.getRightOperand());
            }
            return super.visitBinary(b, none);
        }

        @Override
        public Void visitCompoundAssignment(CompoundAssignmentTree c, Void none) {
            if (c.getKind() == Kind.DIVIDE_ASSIGNMENT || c.getKind() == Kind.REMAINDER_ASSIGNMENT) {
                holdDivisor(c.getExpression());
            }
            return super.visitCompoundAssignment(c, none);
        }

        private void holdDivisor(ExpressionTree divisor) {
            Long value = valueOf(divisor);
            hold(value != null && value != 0, 7, "the divisor " + divisor, divisor);
        }

        @Override
        public Void visitTypeCast(TypeCastTree c, Void none) {
            hold(isWholeNumber(c.getType()), 6, "a cast to " + c.getType(), c);
            return super.visitTypeCast(c, none);
        }

        @Override
        public Void visitThrow(ThrowTree t, Void none) {
            hold(false, 6, "throw", t);
            return super.visitThrow(t, none);
        }

        @Override
        public Void visitTry(TryTree t, Void none) {
            hold(false, 6, "try", t);
            return super.visitTry(t, none);
        }

        @Override
        public Void visitSynchronized(SynchronizedTree s, Void none) {
            hold(false, 6, "synchronized", s);
            return super.visitSynchronized(s, none);
        }

        @Override
        public Void visitAssert(AssertTree a, Void none) {
            hold(false, 6, "assert", a);
            return super.visitAssert(a, none);
        }

        @Override
        public Void visitInstanceOf(InstanceOfTree i, Void none) {
            hold(false, 6, "instanceof", i);
            return super.visitInstanceOf(i, none);
        }

        @Override
        public Void visitLambdaExpression(LambdaExpressionTree l, Void none) {
            hold(false, 6, "a lambda", l);
            return super.visitLambdaExpression(l, none);
        }

        @Override
        public Void visitMemberReference(MemberReferenceTree m, Void none) {
            hold(false, 6, "a method reference", m);
            return super.visitMemberReference(m, none);
        }

        @Override
        public Void visitWhileLoop(WhileLoopTree w, Void none) {
            hold(false, 8, "a while loop", w);
            return super.visitWhileLoop(w, none);
        }

        @Override
        public Void visitDoWhileLoop(DoWhileLoopTree d, Void none) {
            hold(false, 8, "a do loop", d);
            return super.visitDoWhileLoop(d, none);
        }

        @Override
        public Void visitEnhancedForLoop(EnhancedForLoopTree f, Void none) {
            hold(false, 8, "a for loop without a counter", f);
            return super.visitEnhancedForLoop(f, none);
        }

        @Override
        public Void visitForLoop(ForLoopTree loop, Void none) {
            hold(endsByItsCounter(loop), 8, "the end of a for loop can't be seen from its lines", loop);
            return super.visitForLoop(loop, none);
        }

        private boolean endsByItsCounter(ForLoopTree loop) {
            if (loop.getInitializer().size() != 1 || loop.getUpdate().size() != 1) {
                return false;
            }
            if (!(loop.getInitializer().get(0) instanceof VariableTree counter)) {
                return false;
            }
            ExpressionStatementTree update = loop.getUpdate().get(0);
            if (!(update.getExpression() instanceof UnaryTree step)
                || !step.getExpression().toString().contentEquals(counter.getName())) {
                return false;
            }
            Set<String> changed = changedIn(loop.getStatement());
            return !changed.contains(counter.getName().toString())
                && isBounded(loop.getCondition(), counter.getName().toString(), step.getKind(), changed);
        }

        /** Whether one of the conditions that are joined by && holds the counter against a bound that stays. */
        private boolean isBounded(ExpressionTree condition, String counter, Kind step, Set<String> changed) {
            if (condition instanceof ParenthesizedTree p) {
                return isBounded(p.getExpression(), counter, step, changed);
            }
            if (!(condition instanceof BinaryTree b)) {
                return false;
            }
            if (b.getKind() == Kind.CONDITIONAL_AND) {
                return isBounded(b.getLeftOperand(), counter, step, changed)
                    || isBounded(b.getRightOperand(), counter, step, changed);
            }
            boolean up = step == Kind.POSTFIX_INCREMENT && b.getKind() == Kind.LESS_THAN;
            boolean down = step == Kind.POSTFIX_DECREMENT && b.getKind() == Kind.GREATER_THAN_EQUAL
                && b.getRightOperand().toString().equals("0");
            return (up || down) && b.getLeftOperand().toString().equals(counter)
                && stays(b.getRightOperand(), changed);
        }

        /** A constant, or a local variable that the loop leaves alone: a method that is called can't change it. */
        private boolean stays(ExpressionTree bound, Set<String> changed) {
            if (valueOf(bound) != null) {
                return true;
            }
            String name = bound.toString();
            return bound instanceof IdentifierTree && !fields.contains(name) && !changed.contains(name);
        }

        private static Set<String> changedIn(Tree t) {
            Set<String> changed = new HashSet<>();
            new TreeScanner<Void, Void>() {
                @Override
                public Void visitAssignment(AssignmentTree a, Void none) {
                    changed.add(a.getVariable().toString());
                    return super.visitAssignment(a, none);
                }

                @Override
                public Void visitCompoundAssignment(CompoundAssignmentTree a, Void none) {
                    changed.add(a.getVariable().toString());
                    return super.visitCompoundAssignment(a, none);
                }

                @Override
                public Void visitUnary(UnaryTree u, Void none) {
                    changed.add(u.getExpression().toString());
                    return super.visitUnary(u, none);
                }
            }.scan(t, null);
            return changed;
        }
    }

    private static List<String> faultsOf(String source) {
        URI name = URI.create("string:///TrieJoins.java");
        JavaFileObject file = new SimpleJavaFileObject(name, JavaFileObject.Kind.SOURCE) {
            @Override
            public CharSequence getCharContent(boolean ignore) {
                return source;
            }
        };
        JavaCompiler compiler = ToolProvider.getSystemJavaCompiler();
        List<String> faults = new ArrayList<>();
        JavacTask task = (JavacTask) compiler.getTask(
            null, null, d -> faults.add("0: " + d), List.of("-proc:none"), null, List.of(file));
        try {
            for (CompilationUnitTree unit : task.parse()) {
                Reader reader = new Reader(unit, Trees.instance(task).getSourcePositions());
                reader.read();
                faults.addAll(reader.faults);
            }
        } catch (IOException e) {
            faults.add("0: " + e);
        }
        return faults;
    }

    /** A test that finds nothing is only worth something if it finds what is there to be found. */
    private static void finds(int rule, String members) {
        List<String> faults = faultsOf("public final class TrieJoins { " + members + " }");
        boolean found = false;
        for (String fault : faults) {
            found |= fault.startsWith(rule + ": ");
            if (fault.startsWith("0: ")) {
                wrong++;
                System.out.println("not Java: " + members);
            }
        }
        if (!found) {
            wrong++;
            System.out.println("no breach of rule " + rule + " was found in: " + members + " (found: " + faults + ")");
        }
    }

    private static void findsNothing(String members) {
        List<String> faults = faultsOf("public final class TrieJoins { " + members + " }");
        if (!faults.isEmpty()) {
            wrong++;
            System.out.println("found " + faults + " in: " + members);
        }
    }

    private static void breaches() {
        findsNothing("static final int N = 3; private final int[] a = new int[N];");
        findsNothing("int f(int x) { for (int i = 0; i < x; i++) { a(i); } return x / 5; } private void a(int i) { }");
        finds(1, "private class Inner { }");
        finds(1, "record Pair(int a, int b) { }");
        finds(1, "public int count(int q) { return 0; } private int count() { return 1; }");
        finds(2, "private double d;");
        finds(2, "private int[][] d = new int[2][2];");
        finds(2, "private void f(String s) { }");
        finds(2, "private long f() { return \"a\".length; }");
        finds(3, "private int f(int x) { return Math.abs(x); }");
        finds(3, "private int f() { return hashCode(); }");
        finds(4, "private int[] a = new int[4];");
        finds(4, "private final int[] a = {1, 2};");
        finds(4, "private final int[] a = new int[0];");
        finds(4, "private void f(int n) { g(new int[n]); } private void g(int[] a) { }");
        finds(4, "private void f() { new Object(); }");
        finds(4, "private int[] f() { return a; }");
        finds(4, "private boolean f() { return a == null; }");
        finds(5, "private static int n = 3;");
        finds(5, "private static final boolean YES = true;");
        finds(5, "private static final int[] A = new int[3];");
        finds(5, "static { }");
        finds(6, "private void f() { throw e; }");
        finds(6, "private void f() { try { f(); } finally { } }");
        finds(6, "private void f() { assert 1 > 0; }");
        finds(6, "private void f() { synchronized (this) { } }");
        finds(6, "private boolean f() { return this instanceof TrieJoins; }");
        finds(6, "private void f() { g(() -> 1); }");
        finds(6, "private void f() { g(this::f); }");
        finds(6, "private int f() { return ((TrieJoins) a); }");
        finds(7, "private int f(int x) { return 5 / x; }");
        finds(7, "private int f(int x) { x %= 0; return x; }");
        finds(8, "private void f() { f(); }");
        finds(8, "private void f() { g(); } private void g() { f(); }");
        finds(8, "private int n; private void f() { for (int i = 0; i < n; i++) { g(); } } private void g() { }");
        finds(8, "private void f(int q) { for (int i = 0; i < atoms[q]; i++) { g(); } } private void g() { }");
        finds(8, "private void f(int n) { for (int i = 0; i < n; i++) { n++; } }");
        finds(8, "private void f(int n) { for (int i = 0; i < n; i++) { i = 0; } }");
        finds(8, "private void f(int n) { for (int i = 0; i < n; n--) { } }");
        finds(8, "private void f(int n) { for (int i = 0; i < n; i--) { } }");
        finds(8, "private void f(int n) { for (int i = 0; i < n || n > 0; i++) { } }");
        finds(8, "private void f() { for (;;) { } }");
        finds(8, "private void f() { while (true) { } }");
        finds(8, "private void f() { do { } while (true); }");
        finds(10, "private int f(int a, int b, int c, int d, int e, int g, int h, int i) { return 0; }");
        finds(10, "private int f(int a) { return a; } private int g() { return f(1 + f(2)); }");
        finds(10, "private int f() { " + "\n".repeat(MOST_LINES) + "return 0; }");
        finds(10, "void a() { b(); } void b() { c(); } void c() { d(); } void d() { e(); } void e() { f(); }"
            + " void f() { g(); } void g() { }");
        finds(10, fieldsUpTo(MOST_FIELDS + 1));
        findsNothing(fieldsUpTo(MOST_FIELDS));
    }

    private static String fieldsUpTo(int number) {
        StringBuilder fields = new StringBuilder();
        for (int i = 0; i < number; i++) {
            fields.append("private int f").append(i).append("; ");
        }
        return fields.toString();
    }

    public static void main(String[] args) throws IOException {
        breaches();
        for (String fault : faultsOf(Files.readString(Path.of(SOURCE)))) {
            wrong++;
            System.out.println("rule " + fault);
        }
        System.out.println(wrong == 0 ? "the class keeps to its rules" : wrong + " breaches of the rules");
        if (wrong != 0) {
            System.exit(1);
        }
    }
}
