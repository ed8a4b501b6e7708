import com.sun.source.tree.*;
import com.sun.source.tree.Tree.Kind;
import com.sun.source.util.JavacTask;
import com.sun.source.util.TreeScanner;
import com.sun.source.util.Trees;
import java.net.URI;
import java.nio.file.Files;
import java.nio.file.Path;
import java.util.ArrayList;
import java.util.EnumSet;
import java.util.HashMap;
import java.util.HashSet;
import java.util.List;
import java.util.Map;
import java.util.Set;
import java.util.TreeSet;
import javax.lang.model.element.Modifier;
import javax.lang.model.type.TypeKind;
import javax.tools.JavaCompiler;
import javax.tools.JavaFileObject;
import javax.tools.SimpleJavaFileObject;
import javax.tools.ToolProvider;

/**
 * The rules of LANGUAGE.md that can be seen in the source: 1 to 6, 8 and 10; 11 follows from 3. Rule 7 can't be
 * seen there, the other tests call with wrong arguments for it. Where the class has no need of what a rule allows
 * (while, local arrays, arrays made in the constructor), the test forbids it, because that is simpler to check.
 */
public final class LanguageTest {
    private static final String SOURCE = "src/main/java/ColourfulForest.java";
    private static final int MOST_PARAMETERS = 7;
    private static final int MOST_LINES = 60;
    private static final int MOST_CALLS_DEEP = 6;
    private static final int MOST_FIELDS = 40;

    private static final Set<Kind> ALLOWED = EnumSet.of(
            Kind.COMPILATION_UNIT, Kind.CLASS, Kind.METHOD, Kind.VARIABLE, Kind.MODIFIERS, Kind.PRIMITIVE_TYPE,
            Kind.ARRAY_TYPE, Kind.BLOCK, Kind.IF, Kind.FOR_LOOP, Kind.SWITCH, Kind.CASE, Kind.BREAK, Kind.CONTINUE,
            Kind.LABELED_STATEMENT, Kind.RETURN, Kind.EXPRESSION_STATEMENT, Kind.PARENTHESIZED,
            Kind.CONDITIONAL_EXPRESSION, Kind.IDENTIFIER, Kind.ARRAY_ACCESS, Kind.METHOD_INVOCATION, Kind.NEW_ARRAY,
            Kind.TYPE_CAST, Kind.INT_LITERAL, Kind.LONG_LITERAL, Kind.CHAR_LITERAL, Kind.BOOLEAN_LITERAL);

    private static int wrong = 0;

    private static void fail(String what) {
        wrong++;
        System.out.println(what);
    }

    public static void main(String[] args) throws Exception {
        for (String fault : faultsOf(Files.readString(Path.of(SOURCE)))) {
            fail(SOURCE + ": " + fault);
        }
        theCheckSeesEachRule();
        System.out.println(wrong == 0 ? "the rules are kept" : wrong + " faults against the rules");
        if (wrong != 0) {
            System.exit(1);
        }
    }

    /** A check that sees nothing would pass everything, so it is shown sources that break one rule each. */
    private static void theCheckSeesEachRule() throws Exception {
        keeps("private int f(int[] b) { int s = 0; for (int i = 0; i < N; i++) { s += b[i]; } return s; }");
        breaks(1, "int open;");
        breaks(1, "protected int open() { return 0; }");
        breaks(1, "private int ask(int a) { return a; }");
        breaks(1, "private enum E { A }");
        breaksWhole(1, "package p; public final class X { }");
        breaksWhole(1, "public class X { }");
        breaksWhole(1, "public final class X { } class Y { }");
        breaksWhole(1, "public final class X implements Runnable { public void run() { } }");
        breaks(2, "private double d;");
        breaks(2, "private String s;");
        breaks(2, "private int f() { var v = 1; return v; }");
        breaks(2, "private final int[][] a = new int[3][3];");
        breaks(2, "private boolean f(int a) { return a > 0.5; }");
        breaks(3, "private int f(int a) { return Math.abs(a); }");
        breaks(3, "private int f() { return Integer.MAX_VALUE; }");
        breaks(3, "private int f() { return hashCode(); }");
        breaks(3, "private int f() { return this.hashCode(); }");
        breaksWhole(3, "import java.util.*; public final class X { }");
        breaks(4, "private final int[] b = new int[0];");
        breaks(4, "private final int[] b = new int[n];");
        breaks(4, "private final int[] b = {1, 2};");
        breaks(4, "private int[] b = new int[2];");
        breaks(4, "private void f() { int[] b = a; b[0] = 1; }");
        breaks(4, "private int f() { return new int[2][0]; }");
        breaks(4, "private int[] f() { return a; }");
        breaks(4, "private boolean f(int[] b) { return a == b; }");
        breaks(4, "private boolean f() { return a != null; }");
        breaks(4, "private boolean f() { return new X(2) != this; }");
        breaks(5, "private static int s;");
        breaks(5, "private static final short S = 1;");
        breaks(5, "private static final int[] S = new int[2];");
        breaks(5, "static { }");
        breaks(6, "private int f() { throw new RuntimeException(); }");
        breaks(6, "private int f() { try { return 1; } finally { n = 1; } }");
        breaks(6, "private void f() { synchronized (this) { n = 1; } }");
        breaks(6, "private void f() { assert n > 0; }");
        breaks(6, "private synchronized void f() { n = 1; }");
        breaks(8, "private int f(int k) { return k > 0 ? f(k - 1) : 0; }");
        breaks(8, "private int f() { return g(); } private int g() { return f(); }");
        breaks(8, "private void f() { while (n > 0) { n--; } }");
        breaks(8, "private void f() { for (;;) { n++; } }");
        breaks(8, "private void f() { for (int i = 0; n < 3; i++) { n = 1; } }");
        breaks(8, "private void f() { for (int i = 0; i < 3; n++) { n = 1; } }");
        breaks(8, "private void f() { for (int i = 0; i < 3; i++) { i = 0; } }");
        breaks(8, "private void f() { for (int i = 0; i < 3; i++) { i--; } }");
        breaks(8, "private void f() { for (int i = 0; i < n; i++) { n += 1; } }");
        breaks(10, "private int f(int a, int b, int c, int d, int e, int g, int h, int i) { return 0; }");
        breaks(10, "private int f(int k) { return k; } private int g() { int r = f(1 + f(2)); return r; }");
        breaks(10, "private void f() {" + "\n".repeat(MOST_LINES) + "}");
        breaks(10, chain(MOST_CALLS_DEEP + 1));
        keeps(chain(MOST_CALLS_DEEP));
        breaks(10, fields(MOST_FIELDS));
    }

    private static String chain(int methods) {
        StringBuilder text = new StringBuilder("private int c1() { return 0; } ");
        for (int i = 2; i <= methods; i++) {
            text.append("private int c" + i + "() { return c" + (i - 1) + "(); } ");
        }
        return text.toString();
    }

    private static String fields(int count) {
        StringBuilder text = new StringBuilder();
        for (int i = 0; i < count; i++) {
            text.append("private int f" + i + "; ");
        }
        return text.toString();
    }

    private static String sample(String member) {
        return "public final class X { private static final int N = 3; private int n; "
                + "private final int[] a = new int[N]; public X(int k) { n = k; } public int ask() { return n; } "
                + member + " }";
    }

    private static void keeps(String member) throws Exception {
        Set<String> faults = faultsOf(sample(member));
        if (!faults.isEmpty()) {
            fail("the check blames what is allowed: " + member + " " + faults);
        }
    }

    private static void breaks(int rule, String member) throws Exception {
        breaksWhole(rule, sample(member));
    }

    private static void breaksWhole(int rule, String source) throws Exception {
        for (String fault : faultsOf(source)) {
            if (fault.startsWith("rule " + rule + ":")) {
                return;
            }
        }
        fail("the check does not see rule " + rule + " broken in: " + source);
    }

    private static Set<String> faultsOf(String source) throws Exception {
        JavaCompiler compiler = ToolProvider.getSystemJavaCompiler();
        JavaFileObject file = new SimpleJavaFileObject(URI.create("string:///X.java"), JavaFileObject.Kind.SOURCE) {
            @Override
            public CharSequence getCharContent(boolean ignoreEncodingErrors) {
                return source;
            }
        };
        JavacTask task = (JavacTask) compiler.getTask(null, null, d -> { }, null, null, List.of(file));
        CompilationUnitTree unit = task.parse().iterator().next();
        Check check = new Check(unit, Trees.instance(task));
        check.run();
        return check.faults;
    }

    private static final class Check extends TreeScanner<Void, Void> {
        private final CompilationUnitTree unit;
        private final Trees trees;
        private final Set<String> faults = new TreeSet<>();
        private final Map<String, VariableTree> fieldOf = new HashMap<>();
        private final Set<String> publicNames = new HashSet<>();
        private final Set<String> privateNames = new HashSet<>();
        private final Set<String> arrays = new HashSet<>();
        private final Map<String, Set<String>> callsOf = new HashMap<>();
        private final Map<String, Integer> depthOf = new HashMap<>();
        private final Set<String> open = new HashSet<>();
        private String method = "";
        private boolean insideArguments = false;

        Check(CompilationUnitTree unit, Trees trees) {
            this.unit = unit;
            this.trees = trees;
        }

        void fault(int rule, String why, Tree where) {
            long at = trees.getSourcePositions().getStartPosition(unit, where);
            long line = at < 0 ? 0 : unit.getLineMap().getLineNumber(at);
            faults.add("rule " + rule + ": " + why + " (line " + line + ")");
        }

        void run() {
            if (unit.getPackageName() != null) {
                fault(1, "a package line", unit);
            }
            if (!unit.getImports().isEmpty()) {
                fault(3, "an import", unit);
                return;
            }
            if (unit.getTypeDecls().size() != 1 || unit.getTypeDecls().get(0).getKind() != Kind.CLASS) {
                fault(1, "not just one class", unit);
                return;
            }
            ClassTree type = (ClassTree) unit.getTypeDecls().get(0);
            if (!type.getModifiers().getFlags().equals(EnumSet.of(Modifier.PUBLIC, Modifier.FINAL))
                    || type.getExtendsClause() != null || !type.getImplementsClause().isEmpty()
                    || !type.getTypeParameters().isEmpty()) {
                fault(1, "not a plain public final class", type);
            }
            type.getMembers().forEach(this::lookAtMember);
            lookAtNamesAndNumbers(type);
            type.getMembers().forEach(member -> scan(member, null));
            callsOf.keySet().forEach(name -> depth(name, type));
        }

        private void lookAtMember(Tree member) {
            if (member instanceof VariableTree) {
                lookAtField((VariableTree) member);
            } else if (member instanceof MethodTree) {
                lookAtFace((MethodTree) member);
            } else {
                fault(member.getKind() == Kind.BLOCK ? 5 : 1, "a member that is no field and no method", member);
            }
        }

        private void lookAtField(VariableTree field) {
            Set<Modifier> flags = field.getModifiers().getFlags();
            String name = field.getName().toString();
            fieldOf.put(name, field);
            if (!flags.contains(Modifier.PRIVATE)) {
                fault(1, name + " is not private", field);
            }
            if (isArray(field)) {
                arrays.add(name);
                if (!flags.contains(Modifier.FINAL) || !isMadeOnce(field.getInitializer())) {
                    fault(4, name + " is not made once for all in its initialiser", field);
                }
            }
            if (flags.contains(Modifier.STATIC) && !isConstant(field)) {
                fault(5, name + " is static and no constant", field);
            }
        }

        private void lookAtFace(MethodTree m) {
            Set<Modifier> flags = new HashSet<>(m.getModifiers().getFlags());
            String name = m.getName().toString();
            boolean isPublic = flags.remove(Modifier.PUBLIC);
            if (!isPublic && !flags.remove(Modifier.PRIVATE)) {
                fault(1, name + " is neither public nor private", m);
            }
            flags.remove(Modifier.STATIC);
            if (!flags.isEmpty()) {
                fault(6, name + " is " + flags, m);
            }
            (isPublic ? publicNames : privateNames).add(name);
        }

        private void lookAtNamesAndNumbers(ClassTree type) {
            for (String name : privateNames) {
                if (publicNames.contains(name)) {
                    fault(1, "the name " + name + " is both public and private", type);
                }
            }
            long held = fieldOf.values().stream()
                    .filter(f -> !f.getModifiers().getFlags().contains(Modifier.STATIC)).count();
            if (held > MOST_FIELDS) {
                fault(10, held + " fields", type);
            }
        }

        private boolean isArray(VariableTree v) {
            return v.getType() != null && v.getType().getKind() == Kind.ARRAY_TYPE;
        }

        private boolean isConstant(VariableTree field) {
            boolean whole = field.getType() instanceof PrimitiveTypeTree
                    && EnumSet.of(TypeKind.INT, TypeKind.LONG)
                            .contains(((PrimitiveTypeTree) field.getType()).getPrimitiveTypeKind());
            return whole && field.getModifiers().getFlags().contains(Modifier.FINAL)
                    && field.getInitializer() != null && isLiteral(field.getInitializer());
        }

        private boolean isLiteral(ExpressionTree value) {
            Tree bare = value.getKind() == Kind.UNARY_MINUS ? ((UnaryTree) value).getExpression() : value;
            return bare.getKind() == Kind.INT_LITERAL || bare.getKind() == Kind.LONG_LITERAL;
        }

        private boolean isMadeOnce(ExpressionTree made) {
            if (!(made instanceof NewArrayTree)) {
                return false;
            }
            NewArrayTree array = (NewArrayTree) made;
            return array.getInitializers() == null && array.getDimensions().size() == 1
                    && isLength(array.getDimensions().get(0));
        }

        private boolean isLength(ExpressionTree length) {
            ExpressionTree value = length;
            if (length.getKind() == Kind.IDENTIFIER) {
                VariableTree field = fieldOf.get(length.toString());
                if (field == null || !field.getModifiers().getFlags().contains(Modifier.STATIC)) {
                    return false;
                }
                value = field.getInitializer();
            }
            return value instanceof LiteralTree && value.getKind() == Kind.INT_LITERAL
                    && (Integer) ((LiteralTree) value).getValue() >= 1;
        }

        @Override
        public Void scan(Tree tree, Void nothing) {
            if (tree != null && !isAllowed(tree)) {
                fault(ruleAgainst(tree.getKind()), "not for this class: " + tree.getKind(), tree);
            }
            return super.scan(tree, nothing);
        }

        private boolean isAllowed(Tree tree) {
            return ALLOWED.contains(tree.getKind()) || tree instanceof BinaryTree || tree instanceof UnaryTree
                    || tree instanceof AssignmentTree || tree instanceof CompoundAssignmentTree;
        }

        private int ruleAgainst(Kind kind) {
            switch (kind) {
                case STRING_LITERAL: case FLOAT_LITERAL: case DOUBLE_LITERAL: case PARAMETERIZED_TYPE:
                    return 2;
                case MEMBER_SELECT:
                    return 3;
                case NULL_LITERAL: case NEW_CLASS:
                    return 4;
                case WHILE_LOOP: case DO_WHILE_LOOP: case ENHANCED_FOR_LOOP:
                    return 8;
                case INTERFACE: case ENUM: case RECORD: case ANNOTATION: case ANNOTATION_TYPE:
                    return 1;
                default:
                    return 6;
            }
        }

        @Override
        public Void visitMethod(MethodTree m, Void nothing) {
            method = m.getName().toString();
            callsOf.putIfAbsent(method, new HashSet<>());
            if (m.getReturnType() != null && m.getReturnType().getKind() != Kind.PRIMITIVE_TYPE) {
                fault(4, method + " answers no number", m);
            }
            if (m.getParameters().size() > MOST_PARAMETERS) {
                fault(10, method + " has too many parameters", m);
            }
            LineMap lines = unit.getLineMap();
            long first = lines.getLineNumber(trees.getSourcePositions().getStartPosition(unit, m));
            long last = lines.getLineNumber(trees.getSourcePositions().getEndPosition(unit, m));
            if (last - first + 1 > MOST_LINES) {
                fault(10, method + " is too long", m);
            }
            Set<String> fieldsThatAreArrays = new HashSet<>(arrays);
            m.getParameters().stream().filter(this::isArray).forEach(p -> arrays.add(p.getName().toString()));
            super.visitMethod(m, nothing);
            arrays.retainAll(fieldsThatAreArrays);
            method = "";
            return null;
        }

        @Override
        public Void visitVariable(VariableTree v, Void nothing) {
            boolean isLocal = !method.isEmpty() && !arrays.contains(v.getName().toString());
            if (isLocal && isArray(v)) {
                fault(4, v.getName() + " is a local array", v);
            }
            if (v.getType() == null || v.getType().getKind() == Kind.IDENTIFIER) {
                fault(2, v.getName() + " has a type that is not allowed", v);
            }
            return super.visitVariable(v, nothing);
        }

        @Override
        public Void visitPrimitiveType(PrimitiveTypeTree type, Void nothing) {
            if (EnumSet.of(TypeKind.FLOAT, TypeKind.DOUBLE).contains(type.getPrimitiveTypeKind())) {
                fault(2, "a type with fractions", type);
            }
            return super.visitPrimitiveType(type, nothing);
        }

        @Override
        public Void visitArrayType(ArrayTypeTree type, Void nothing) {
            if (type.getType().getKind() != Kind.PRIMITIVE_TYPE) {
                fault(2, "an array of more than one dimension or of objects", type);
            }
            return super.visitArrayType(type, nothing);
        }

        @Override
        public Void visitNewArray(NewArrayTree array, Void nothing) {
            if (!method.isEmpty()) {
                fault(4, "an array made in " + method, array);
            }
            return super.visitNewArray(array, nothing);
        }

        @Override
        public Void visitTypeCast(TypeCastTree cast, Void nothing) {
            if (cast.getType().getKind() != Kind.PRIMITIVE_TYPE) {
                fault(6, "a cast of a reference", cast);
            }
            return super.visitTypeCast(cast, nothing);
        }

        @Override
        public Void visitBinary(BinaryTree pair, Void nothing) {
            boolean compares = pair.getKind() == Kind.EQUAL_TO || pair.getKind() == Kind.NOT_EQUAL_TO;
            if (compares && (arrays.contains(pair.getLeftOperand().toString())
                    || arrays.contains(pair.getRightOperand().toString()))) {
                fault(4, "an array compared", pair);
            }
            return super.visitBinary(pair, nothing);
        }

        @Override
        public Void visitMethodInvocation(MethodInvocationTree call, Void nothing) {
            String name = call.getMethodSelect().toString();
            if (!publicNames.contains(name) && !privateNames.contains(name)) {
                fault(3, name + " is no method of the class", call);
            }
            if (insideArguments) {
                fault(10, "a call of " + name + " inside the arguments of another", call);
            }
            callsOf.computeIfAbsent(method, m -> new HashSet<>()).add(name);
            boolean before = insideArguments;
            scan(call.getMethodSelect(), nothing);
            insideArguments = true;
            scan(call.getArguments(), nothing);
            insideArguments = before;
            return null;
        }

        @Override
        public Void visitForLoop(ForLoopTree loop, Void nothing) {
            if (!isCounted(loop)) {
                fault(8, "a loop whose end can't be seen from its lines", loop);
            }
            return super.visitForLoop(loop, nothing);
        }

        /** The form for (int i = ..; i < bound; i++), also with <=, where the body sets no name of the condition. */
        private boolean isCounted(ForLoopTree loop) {
            if (loop.getInitializer().size() != 1 || !(loop.getInitializer().get(0) instanceof VariableTree)
                    || !(loop.getCondition() instanceof BinaryTree) || loop.getUpdate().size() != 1) {
                return false;
            }
            String counter = ((VariableTree) loop.getInitializer().get(0)).getName().toString();
            BinaryTree condition = (BinaryTree) loop.getCondition();
            boolean rises = loop.getUpdate().get(0).getExpression().toString().equals(counter + "++");
            boolean isBounded = condition.getKind() == Kind.LESS_THAN || condition.getKind() == Kind.LESS_THAN_EQUAL;
            Set<String> fixed = namesIn(condition);
            fixed.retainAll(namesSetIn(loop.getStatement()));
            return rises && isBounded && condition.getLeftOperand().toString().equals(counter) && fixed.isEmpty();
        }

        private Set<String> namesIn(Tree tree) {
            Set<String> names = new HashSet<>();
            new TreeScanner<Void, Void>() {
                @Override
                public Void visitIdentifier(IdentifierTree name, Void nothing) {
                    names.add(name.toString());
                    return null;
                }
            }.scan(tree, null);
            return names;
        }

        private Set<String> namesSetIn(Tree tree) {
            Set<String> names = new HashSet<>();
            new TreeScanner<Void, Void>() {
                @Override
                public Void visitAssignment(AssignmentTree set, Void nothing) {
                    names.add(set.getVariable().toString());
                    return super.visitAssignment(set, nothing);
                }

                @Override
                public Void visitCompoundAssignment(CompoundAssignmentTree set, Void nothing) {
                    names.add(set.getVariable().toString());
                    return super.visitCompoundAssignment(set, nothing);
                }

                @Override
                public Void visitUnary(UnaryTree step, Void nothing) {
                    if (step.getKind().name().endsWith("CREMENT")) {
                        names.add(step.getExpression().toString());
                    }
                    return super.visitUnary(step, nothing);
                }
            }.scan(tree, null);
            return names;
        }

        /** How many methods stand one above the other, this one counted, when it calls as deep as it can. */
        private int depth(String name, Tree type) {
            if (depthOf.containsKey(name)) {
                return depthOf.get(name);
            }
            if (!open.add(name)) {
                fault(8, name + " calls itself, perhaps through others", type);
                return 0;
            }
            int deepest = 0;
            for (String called : new ArrayList<>(callsOf.getOrDefault(name, Set.of()))) {
                deepest = Math.max(deepest, depth(called, type));
            }
            open.remove(name);
            depthOf.put(name, deepest + 1);
            if (deepest + 1 > MOST_CALLS_DEEP) {
                fault(10, name + " calls too deep", type);
            }
            return deepest + 1;
        }
    }
}
