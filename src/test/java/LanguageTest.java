import com.sun.source.tree.*;
import com.sun.source.util.JavacTask;
import com.sun.source.util.SourcePositions;
import com.sun.source.util.TreePathScanner;
import com.sun.source.util.TreeScanner;
import com.sun.source.util.Trees;
import java.io.IOException;
import java.net.URI;
import java.nio.file.Files;
import java.nio.file.Path;
import java.util.ArrayList;
import java.util.HashSet;
import java.util.List;
import java.util.Map;
import java.util.Set;
import java.util.TreeMap;
import java.util.TreeSet;
import javax.lang.model.element.Modifier;
import javax.lang.model.type.TypeKind;
import javax.tools.JavaFileObject;
import javax.tools.SimpleJavaFileObject;
import javax.tools.ToolProvider;

/**
 * The rules of LANGUAGE.md that can be seen in the source, looked for in its parsed tree. Where a rule
 * leaves a choice, only what the class makes use of is let through: arrays are made in fields' initialisers
 * and stand before an index alone, every loop is a for with a rising counter, nothing is divided.
 * Which members are shown is FaceTest's; that an index is in its array is BoundaryTest's; rule 9 forbids
 * nothing, and rule 11 follows from rule 3.
 */
public final class LanguageTest {
    private static final Path SOURCE = Path.of("src/main/java/ReadPhaser.java");
    private static final int MOST_PARAMETERS = 7;
    private static final int MOST_LINES = 60;
    private static final int DEEPEST = 6;
    private static final int MOST_FIELDS = 40;

    private static final class Source extends SimpleJavaFileObject {
        private final String text;

        Source(String text) {
            super(URI.create("string:///ReadPhaser.java"), JavaFileObject.Kind.SOURCE);
            this.text = text;
        }

        @Override
        public CharSequence getCharContent(boolean ignoreEncodingErrors) {
            return text;
        }
    }

    private static Set<String> faults(String text) throws IOException {
        JavacTask task = (JavacTask) ToolProvider.getSystemJavaCompiler()
            .getTask(null, null, null, List.of("--release", "17"), null, List.of(new Source(text)));
        CompilationUnitTree unit = task.parse().iterator().next();
        Rules rules = new Rules(unit, Trees.instance(task).getSourcePositions());
        rules.scan(unit, null);
        rules.lookAtCalls();
        return rules.faults;
    }

    /** The names to which a piece of code gives a new value. */
    private static Set<String> assignedIn(Tree code) {
        Set<String> names = new HashSet<>();
        new TreeScanner<Void, Void>() {
            @Override
            public Void visitAssignment(AssignmentTree node, Void none) {
                names.add(node.getVariable().toString());
                return super.visitAssignment(node, none);
            }

            @Override
            public Void visitCompoundAssignment(CompoundAssignmentTree node, Void none) {
                names.add(node.getVariable().toString());
                return super.visitCompoundAssignment(node, none);
            }

            @Override
            public Void visitUnary(UnaryTree node, Void none) {
                if (STEPS.contains(node.getKind())) {
                    names.add(node.getExpression().toString());
                }
                return super.visitUnary(node, none);
            }
        }.scan(code, null);
        return names;
    }

    private static boolean hasCall(Tree code) {
        Boolean found = new TreeScanner<Boolean, Void>() {
            @Override
            public Boolean visitMethodInvocation(MethodInvocationTree node, Void none) {
                return true;
            }

            @Override
            public Boolean reduce(Boolean one, Boolean other) {
                return Boolean.TRUE.equals(one) || Boolean.TRUE.equals(other);
            }
        }.scan(code, null);
        return Boolean.TRUE.equals(found);
    }

    private static final Set<Tree.Kind> STEPS = Set.of(Tree.Kind.POSTFIX_INCREMENT, Tree.Kind.PREFIX_INCREMENT,
        Tree.Kind.POSTFIX_DECREMENT, Tree.Kind.PREFIX_DECREMENT);

    private static final Set<Tree.Kind> DIVISIONS = Set.of(Tree.Kind.DIVIDE, Tree.Kind.REMAINDER,
        Tree.Kind.DIVIDE_ASSIGNMENT, Tree.Kind.REMAINDER_ASSIGNMENT);

    /** Rule 8 for loops, rule 6 for the rest. */
    private static final Map<Tree.Kind, Integer> FORBIDDEN = Map.ofEntries(
        Map.entry(Tree.Kind.WHILE_LOOP, 8), Map.entry(Tree.Kind.DO_WHILE_LOOP, 8),
        Map.entry(Tree.Kind.ENHANCED_FOR_LOOP, 8), Map.entry(Tree.Kind.THROW, 6), Map.entry(Tree.Kind.TRY, 6),
        Map.entry(Tree.Kind.SYNCHRONIZED, 6), Map.entry(Tree.Kind.ASSERT, 6), Map.entry(Tree.Kind.INSTANCE_OF, 6),
        Map.entry(Tree.Kind.LAMBDA_EXPRESSION, 6), Map.entry(Tree.Kind.MEMBER_REFERENCE, 6),
        Map.entry(Tree.Kind.NEW_CLASS, 2), Map.entry(Tree.Kind.STRING_LITERAL, 2),
        Map.entry(Tree.Kind.DOUBLE_LITERAL, 2), Map.entry(Tree.Kind.FLOAT_LITERAL, 2),
        Map.entry(Tree.Kind.NULL_LITERAL, 4), Map.entry(Tree.Kind.IMPORT, 3), Map.entry(Tree.Kind.ANNOTATION, 3),
        Map.entry(Tree.Kind.MEMBER_SELECT, 3), Map.entry(Tree.Kind.PACKAGE, 1), Map.entry(Tree.Kind.ERRONEOUS, 1));

    private static final class Rules extends TreePathScanner<Void, Void> {
        final Set<String> faults = new TreeSet<>();
        private final CompilationUnitTree unit;
        private final SourcePositions positions;
        private final Set<String> arrays = new HashSet<>();
        private final Set<String> constants = new HashSet<>();
        private final Set<String> publicMethods = new HashSet<>();
        private final Map<String, Set<String>> calls = new TreeMap<>();
        private String method = "";

        Rules(CompilationUnitTree unit, SourcePositions positions) {
            this.unit = unit;
            this.positions = positions;
        }

        private void must(boolean holds, int rule, Tree at, String what) {
            if (!holds) {
                long line = unit.getLineMap().getLineNumber(positions.getStartPosition(unit, at));
                faults.add("rule " + rule + ", line " + line + ": " + what);
            }
        }

        private boolean isMember() {
            return getCurrentPath().getParentPath().getLeaf() instanceof ClassTree;
        }

        @Override
        public Void scan(Tree tree, Void none) {
            if (tree != null && FORBIDDEN.containsKey(tree.getKind())) {
                must(false, FORBIDDEN.get(tree.getKind()), tree, "not in this class: " + tree.getKind());
            }
            if (tree != null && DIVISIONS.contains(tree.getKind())) {
                must(false, 7, tree, "a divisor that nothing has looked at");
            }
            return super.scan(tree, none);
        }

        @Override
        public Void visitCompilationUnit(CompilationUnitTree node, Void none) {
            must(node.getTypeDecls().size() == 1, 1, node, "one class in one file");
            return super.visitCompilationUnit(node, none);
        }

        @Override
        public Void visitClass(ClassTree node, Void none) {
            boolean outer = getCurrentPath().getParentPath().getLeaf() == unit;
            must(outer, 1, node, "nested: " + node.getSimpleName());
            if (outer) {
                must(node.getKind() == Tree.Kind.CLASS && node.getSimpleName().contentEquals("ReadPhaser"), 1, node, "the class");
                must(node.getModifiers().getFlags().equals(Set.of(Modifier.PUBLIC, Modifier.FINAL)), 1, node, "public and final");
                must(node.getExtendsClause() == null && node.getImplementsClause().isEmpty(), 2, node, "another class");
                gatherNames(node);
            }
            return super.visitClass(node, none);
        }

        private void gatherNames(ClassTree node) {
            int fields = 0;
            for (Tree member : node.getMembers()) {
                if (member instanceof MethodTree) {
                    gatherMethod((MethodTree) member);
                } else if (member instanceof VariableTree) {
                    fields += gatherField((VariableTree) member) ? 1 : 0;
                }
            }
            must(fields <= MOST_FIELDS, 10, node, fields + " fields");
        }

        private void gatherMethod(MethodTree node) {
            String name = node.getName().toString();
            calls.put(name, new TreeSet<>());
            if (node.getModifiers().getFlags().contains(Modifier.PUBLIC)) {
                publicMethods.add(name);
            }
        }

        /** Constants don't count as fields. */
        private boolean gatherField(VariableTree node) {
            String name = node.getName().toString();
            if (node.getModifiers().getFlags().contains(Modifier.STATIC)) {
                constants.add(name);
                return false;
            }
            if (node.getType() instanceof ArrayTypeTree) {
                arrays.add(name);
            }
            return true;
        }

        @Override
        public Void visitMethod(MethodTree node, Void none) {
            method = node.getName().toString();
            Set<Modifier> flags = node.getModifiers().getFlags();
            must(flags.contains(Modifier.PUBLIC) || !publicMethods.contains(method), 1, node, "named as a public one: " + method);
            must(flags.contains(Modifier.PUBLIC) != flags.contains(Modifier.PRIVATE), 1, node, "neither public nor private: " + method);
            must(node.getReturnType() == null || node.getReturnType() instanceof PrimitiveTypeTree, 4, node, "answers an object or array");
            must(node.getParameters().size() <= MOST_PARAMETERS, 10, node, "parameters of " + method);
            must(node.getThrows().isEmpty() && node.getTypeParameters().isEmpty(), 6, node, "throws or a type's name");
            LineMap lines = unit.getLineMap();
            long length = 1 + lines.getLineNumber(positions.getEndPosition(unit, node))
                - lines.getLineNumber(positions.getStartPosition(unit, node));
            must(length <= MOST_LINES, 10, node, method + " has " + length + " lines");
            super.visitMethod(node, none);
            method = "";
            return none;
        }

        @Override
        public Void visitVariable(VariableTree node, Void none) {
            Tree type = node.getType();
            must(type instanceof PrimitiveTypeTree || type instanceof ArrayTypeTree, 2, node, "type of " + node.getName());
            Set<Modifier> flags = node.getModifiers().getFlags();
            if (flags.contains(Modifier.STATIC)) {
                must(flags.contains(Modifier.FINAL) && isNumber(type) && isConstant(node.getInitializer()), 5, node, "" + node.getName());
            } else if (isMember()) {
                must(flags.contains(Modifier.PRIVATE), 1, node, "a field that is shown: " + node.getName());
            }
            if (type instanceof ArrayTypeTree) {
                must(isMember() && flags.contains(Modifier.FINAL) && node.getInitializer() instanceof NewArrayTree,
                    4, node, "array " + node.getName());
            }
            return super.visitVariable(node, none);
        }

        private boolean isNumber(Tree type) {
            return type instanceof PrimitiveTypeTree
                && Set.of(TypeKind.INT, TypeKind.LONG).contains(((PrimitiveTypeTree) type).getPrimitiveTypeKind());
        }

        private boolean isConstant(ExpressionTree value) {
            if (value instanceof UnaryTree) {
                return ((UnaryTree) value).getExpression() instanceof LiteralTree;
            }
            return value instanceof LiteralTree || value instanceof IdentifierTree && constants.contains(value.toString());
        }

        @Override
        public Void visitPrimitiveType(PrimitiveTypeTree node, Void none) {
            must(!Set.of(TypeKind.FLOAT, TypeKind.DOUBLE).contains(node.getPrimitiveTypeKind()), 2, node, "" + node);
            return super.visitPrimitiveType(node, none);
        }

        @Override
        public Void visitArrayType(ArrayTypeTree node, Void none) {
            must(node.getType() instanceof PrimitiveTypeTree, 2, node, "" + node);
            return super.visitArrayType(node, none);
        }

        @Override
        public Void visitNewArray(NewArrayTree node, Void none) {
            boolean inField = getCurrentPath().getParentPath().getParentPath().getLeaf() instanceof ClassTree;
            boolean plain = node.getInitializers() == null && node.getDimensions().size() == 1;
            must(inField && plain && isConstant(node.getDimensions().get(0)), 4, node, "" + node);
            must(!"0".equals(plain ? node.getDimensions().get(0).toString() : ""), 4, node, "length 0");
            return super.visitNewArray(node, none);
        }

        @Override
        public Void visitIdentifier(IdentifierTree node, Void none) {
            Tree parent = getCurrentPath().getParentPath().getLeaf();
            boolean indexed = parent instanceof ArrayAccessTree && ((ArrayAccessTree) parent).getExpression() == node;
            must(indexed || !arrays.contains(node.getName().toString()), 4, node, "an array without its index: " + node);
            return super.visitIdentifier(node, none);
        }

        @Override
        public Void visitTypeCast(TypeCastTree node, Void none) {
            must(node.getType() instanceof PrimitiveTypeTree, 6, node, "" + node);
            return super.visitTypeCast(node, none);
        }

        @Override
        public Void visitBlock(BlockTree node, Void none) {
            must(!isMember(), 5, node, "an initialiser");
            return super.visitBlock(node, none);
        }

        @Override
        public Void visitMethodInvocation(MethodInvocationTree node, Void none) {
            String called = node.getMethodSelect().toString();
            must(calls.containsKey(called), 3, node, "not of this class: " + called);
            // Empty in a field's initialiser.
            calls.getOrDefault(method, new TreeSet<>()).add(called);
            for (Tree argument : node.getArguments()) {
                must(!hasCall(argument), 10, node, "a call inside the arguments of " + called);
            }
            return super.visitMethodInvocation(node, none);
        }

        @Override
        public Void visitForLoop(ForLoopTree node, Void none) {
            must(hasPlainEnd(node), 8, node, "the loop's end can't be seen");
            return super.visitForLoop(node, none);
        }

        /** for (int i = ..; i < bound; i++ or i += 2), whose body changes neither. */
        private boolean hasPlainEnd(ForLoopTree loop) {
            if (loop.getInitializer().size() != 1 || loop.getUpdate().size() != 1
                    || !(loop.getInitializer().get(0) instanceof VariableTree)
                    || loop.getCondition() == null || loop.getCondition().getKind() != Tree.Kind.LESS_THAN) {
                return false;
            }
            String counter = ((VariableTree) loop.getInitializer().get(0)).getName().toString();
            BinaryTree test = (BinaryTree) loop.getCondition();
            String bound = test.getRightOperand().toString();
            Set<String> assigned = assignedIn(loop.getStatement());
            return test.getLeftOperand().toString().equals(counter)
                && (test.getRightOperand() instanceof IdentifierTree || test.getRightOperand() instanceof LiteralTree)
                && !assigned.contains(counter) && !assigned.contains(bound)
                && List.of(counter + "++", counter + " += 2").contains(loop.getUpdate().get(0).getExpression().toString());
        }

        void lookAtCalls() {
            for (String name : calls.keySet()) {
                Set<String> reached = new TreeSet<>();
                Set<String> next = new TreeSet<>(calls.get(name));
                int depth = 1;
                while (!next.isEmpty() && depth <= calls.size()) {
                    depth++;
                    reached.addAll(next);
                    Set<String> further = new TreeSet<>();
                    next.forEach(called -> further.addAll(calls.getOrDefault(called, Set.of())));
                    next = further;
                }
                must(!reached.contains(name), 8, unit, "recursion: " + name);
                must(depth <= DEEPEST, 10, unit, "calls from " + name + " go " + depth + " deep");
            }
        }
    }

    /** A piece outside a rule, to be put into the class as a member, or ahead of it. */
    private static final class Breakage {
        final int rule;
        final String ahead;
        final String member;

        Breakage(int rule, String ahead, String member) {
            this.rule = rule;
            this.ahead = ahead;
            this.member = member;
        }

        String in(String text) {
            int end = text.lastIndexOf('}');
            return ahead + text.substring(0, end) + member + "\n}\n";
        }
    }

    private static Breakage ahead(int rule, String piece) {
        return new Breakage(rule, piece + "\n", "");
    }

    private static Breakage member(int rule, String piece) {
        return new Breakage(rule, "", piece);
    }

    private static Breakage body(int rule, String piece) {
        return member(rule, "private int broken(int p) { " + piece + " return 0; }");
    }

    private static String fields(int count) {
        StringBuilder text = new StringBuilder();
        for (int i = 0; i < count; i++) {
            text.append("private int broken").append(i).append("; ");
        }
        return text.toString();
    }

    private static String chain(int methods) {
        StringBuilder text = new StringBuilder("private void broken0() { } ");
        for (int i = 1; i < methods; i++) {
            text.append("private void broken").append(i).append("() { broken").append(i - 1).append("(); } ");
        }
        return text.toString();
    }

    /** The checker itself is tested by these: one that it lets through is told as a fault. */
    private static final List<Breakage> BREAKAGES = List.of(
        ahead(1, "package broken;"), ahead(1, "class Broken { }"), ahead(1, "interface Broken { }"),
        member(1, "private int least(int p) { return p; }"), member(1, "int broken() { return 0; }"),
        member(1, "protected int broken() { return 0; }"), member(1, "int broken;"),
        member(1, "private static class Broken { }"), member(1, "private interface Broken { }"),
        member(1, "private enum Broken { ONE }"), member(1, "private record Broken(int p) { }"),
        member(2, "private double broken;"), body(2, "int q = (int) 0.5;"), body(2, "int q = (int) (float) p;"),
        body(2, "int q = (int) 1f;"), member(2, "private String broken;"), member(2, "private ReadPhaser broken;"),
        member(2, "private final int[][] broken = new int[3][];"), body(2, "new ReadPhaser();"), body(2, "var q = p;"),
        member(2, "private int broken(ReadPhaser p) { return 0; }"),
        ahead(3, "import java.util.Arrays;"), body(3, "int q = Math.abs(p);"), body(3, "int q = Integer.MAX_VALUE;"),
        body(3, "hashCode();"), body(3, "getClass();"), member(3, "@Deprecated private int broken;"),
        body(4, "int[] q = trusts;"), body(4, "int[] q = new int[8];"), body(4, "boolean q = trusts == values;"),
        member(4, "private int[] broken() { return trusts; }"), member(4, "private int[] broken = new int[8];"),
        member(4, "private final int[] broken = new int[0];"), member(4, "private final int[] broken = {1, 2};"),
        member(4, "private final int[] broken = new int[reads];"), body(4, "trusts = values;"),
        body(4, "int q = trusts == null ? 0 : 1;"),
        member(5, "private static int broken = 0;"), member(5, "private static final boolean BROKEN = true;"),
        member(5, "private static final int BROKEN = smaller(1, 2);"), member(5, "static { }"),
        member(5, "private static final int[] BROKEN = new int[8];"),
        body(6, "throw null;"), body(6, "try { p++; } finally { p--; }"), body(6, "synchronized (this) { }"),
        body(6, "assert p > 0;"), body(6, "boolean q = this instanceof ReadPhaser;"),
        body(6, "Runnable q = () -> { };"), body(6, "Runnable q = this::read;"), body(6, "Object q = (Object) this;"),
        member(6, "private int broken() throws Exception { return 0; }"),
        body(7, "int q = 8 / p;"), body(7, "int q = 8 % p;"), body(7, "p /= p;"), body(7, "p %= p;"),
        body(8, "broken(p);"), member(8, "private void one() { two(); } private void two() { one(); }"),
        body(8, "while (p > 0) { p--; }"), body(8, "do { p--; } while (p > 0);"), body(8, "for (int q : trusts) { }"),
        body(8, "for (;;) { }"), body(8, "for (int i = 0; i < p; ) { }"), body(8, "for (int i = 0; ; i++) { }"),
        body(8, "for (int i = 0; i < p; i--) { }"), body(8, "for (int i = 0; i < p; i += 0) { }"),
        body(8, "for (int i = 0; i < p; i++) { i = 0; }"), body(8, "for (int i = 0; i < p; i++) { i--; }"),
        body(8, "for (int i = 0; i < p; i++) { p++; }"), body(8, "for (int i = 0; i < p; i++) { p += 1; }"),
        body(8, "for (int i = 0; p < 8; i++) { }"), body(8, "for (int i = 0; i != p; i++) { }"),
        body(10, "int q = smaller(smaller(1, 2), 3);"), body(10, "int q = smaller(1, 2 + smaller(p, 3));"),
        member(10, "private void broken(int a, int b, int c, int d, int e, int f, int g, int h) { }"),
        body(10, "p++;\n".repeat(MOST_LINES)), member(10, fields(MOST_FIELDS)), member(10, chain(DEEPEST + 1)));

    private static boolean isCaught(Breakage broken, Set<String> found) {
        return found.stream().anyMatch(fault -> fault.startsWith("rule " + broken.rule + ","));
    }

    public static void main(String[] args) throws IOException {
        String text = Files.readString(SOURCE);
        Set<String> wrong = new TreeSet<>(faults(text));
        for (Breakage broken : BREAKAGES) {
            if (!isCaught(broken, faults(broken.in(text)))) {
                wrong.add("not seen as outside rule " + broken.rule + ": " + broken.ahead + broken.member);
            }
        }
        wrong.forEach(System.out::println);
        System.out.println(BREAKAGES.size() + " breakages tried, " + (wrong.isEmpty() ? "the rules hold" : wrong.size() + " faults"));
        if (!wrong.isEmpty()) {
            System.exit(1);
        }
    }
}
