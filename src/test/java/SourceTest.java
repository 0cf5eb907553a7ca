import com.sun.source.tree.*;
import com.sun.source.util.JavacTask;
import com.sun.source.util.SourcePositions;
import com.sun.source.util.TreePath;
import com.sun.source.util.TreePathScanner;
import com.sun.source.util.Trees;
import java.io.IOException;
import java.nio.file.Path;
import java.util.ArrayList;
import java.util.Arrays;
import java.util.HashMap;
import java.util.HashSet;
import java.util.LinkedHashMap;
import java.util.List;
import java.util.Map;
import java.util.Set;
import java.util.TreeSet;
import javax.lang.model.element.Element;
import javax.lang.model.element.ExecutableElement;
import javax.lang.model.element.Modifier;
import javax.lang.model.element.TypeElement;
import javax.tools.JavaCompiler;
import javax.tools.StandardJavaFileManager;
import javax.tools.ToolProvider;

/** Rules 2 to 12 of LANGUAGE.md, as far as they can be read off the tree of CometKin's source. */
public final class SourceTest {
    private static final Checks C = new Checks("SourceTest");
    private static final Path SOURCE = Path.of("src/main/java/CometKin.java");
    private static final Set<Tree.Kind> FORBIDDEN = Set.of(Tree.Kind.TRY, Tree.Kind.THROW, Tree.Kind.CATCH,
        Tree.Kind.SYNCHRONIZED, Tree.Kind.ASSERT, Tree.Kind.LAMBDA_EXPRESSION, Tree.Kind.MEMBER_REFERENCE,
        Tree.Kind.SWITCH_EXPRESSION, Tree.Kind.IMPORT, Tree.Kind.PACKAGE, Tree.Kind.ANNOTATION);
    private static final Set<String> SINGLE_TYPES =
        Set.of("int", "long", "short", "byte", "char", "boolean", "String", "StringBuilder", "void");
    private static final Set<String> CONSTANTS =
        Set.of("int", "long", "boolean", "char", "String", "int[]", "long[]", "char[]", "byte[]");
    private static final Map<String, Set<String>> LIBRARY = Map.of(
        "java.lang.String", Set.of("length", "charAt", "isEmpty", "equals", "indexOf", "substring", "toCharArray"),
        "java.lang.StringBuilder", Set.of("append", "charAt", "setCharAt", "setLength", "deleteCharAt", "reverse",
            "length", "toString"),
        "java.lang.Math", Set.of("max", "min", "abs", "floorDiv", "floorMod"),
        "java.lang.Integer", Set.of("compare", "max", "min", "bitCount"),
        "java.lang.Long", Set.of("compare", "max", "min", "bitCount"),
        "java.lang.System", Set.of("arraycopy"));

    private final CompilationUnitTree unit;
    private final Trees trees;
    private final SourcePositions positions;
    private final Set<String> own = new HashSet<>();
    private final Map<Element, Set<Element>> calls = new LinkedHashMap<>();
    private final Set<String> seen = new TreeSet<>();

    private SourceTest(CompilationUnitTree unit, Trees trees) {
        this.unit = unit;
        this.trees = trees;
        this.positions = trees.getSourcePositions();
    }

    public static void main(String[] args) throws IOException {
        JavaCompiler compiler = ToolProvider.getSystemJavaCompiler();
        try (StandardJavaFileManager files = compiler.getStandardFileManager(null, null, null)) {
            JavacTask task = (JavacTask) compiler.getTask(null, files, null, List.of("-proc:none"), null,
                files.getJavaFileObjects(SOURCE));
            CompilationUnitTree unit = task.parse().iterator().next();
            task.analyze();
            new SourceTest(unit, Trees.instance(task)).check();
        }
        C.end();
    }

    private void check() {
        new Names().scan(unit, null);
        new Rules().scan(unit, null);
        callsGoDown();
        yes("rule 11: some twelve classes at most", own.size() <= 12);
        // the tree was read at all, and what is looked at stands in it
        yes("what was seen: " + seen, seen.containsAll(Set.of("array", "division", "loop", "new", "constant", "call")));
    }

    private void yes(String what, boolean holds) {
        C.due(what, holds ? 1 : 0, 1);
    }

    private String at(Tree tree) {
        return " at line " + unit.getLineMap().getLineNumber(positions.getStartPosition(unit, tree)) + ": "
            + tree.toString().strip().lines().findFirst().orElse("");
    }

    private long lines(Tree tree) {
        return unit.getLineMap().getLineNumber(positions.getEndPosition(unit, tree))
            - unit.getLineMap().getLineNumber(positions.getStartPosition(unit, tree)) + 1;
    }

    /** The names of the classes of the file. */
    private final class Names extends TreePathScanner<Void, Void> {
        @Override
        public Void visitClass(ClassTree tree, Void none) {
            own.add(tree.getSimpleName().toString());
            return super.visitClass(tree, none);
        }
    }

    private final class Rules extends TreePathScanner<Void, Void> {
        private ExecutableElement method;
        private String body = "";

        @Override
        public Void scan(Tree tree, Void none) {
            if (tree != null) {
                yes("rules 2, 4, 6: nothing like" + at(tree), !FORBIDDEN.contains(tree.getKind()));
            }
            return super.scan(tree, none);
        }

        private Element element(Tree tree) {
            return trees.getElement(new TreePath(getCurrentPath(), tree));
        }

        private String typeOf(Tree tree) {
            return String.valueOf(trees.getTypeMirror(new TreePath(getCurrentPath(), tree)));
        }

        @Override
        public Void visitClass(ClassTree tree, Void none) {
            boolean inside = getCurrentPath().getParentPath().getLeaf() instanceof ClassTree;
            yes("rule 2: a class of its own inside is static" + at(tree),
                !inside || tree.getModifiers().getFlags().contains(Modifier.STATIC));
            yes("rule 2: no class in a method" + at(tree), method == null);
            long fields = tree.getMembers().stream().filter(it -> it instanceof VariableTree field
                && !field.getModifiers().getFlags().contains(Modifier.STATIC)).count();
            yes("rule 11: some twenty fields at most" + at(tree), fields <= 20);
            yes("rule 5: no static block" + at(tree), tree.getMembers().stream().noneMatch(BlockTree.class::isInstance));
            return super.visitClass(tree, none);
        }

        @Override
        public Void visitMethod(MethodTree tree, Void none) {
            yes("rule 11: seven parameters at most" + at(tree), tree.getParameters().size() <= 7);
            yes("rule 11: some sixty lines at most" + at(tree), lines(tree) <= 60);
            if (tree.getReturnType() != null) {
                type(tree.getReturnType(), tree);
            }
            method = (ExecutableElement) trees.getElement(getCurrentPath());
            body = tree.toString();
            calls.put(method, new HashSet<>());
            super.visitMethod(tree, none);
            method = null;
            body = "";
            return null;
        }

        @Override
        public Void visitVariable(VariableTree tree, Void none) {
            type(tree.getType(), tree);
            Set<Modifier> flags = tree.getModifiers().getFlags();
            if (flags.contains(Modifier.STATIC)) {
                seen.add("constant");
                yes("rule 5: a static field is final" + at(tree), flags.contains(Modifier.FINAL));
                yes("rule 5: of a type that stands there" + at(tree), CONSTANTS.contains(tree.getType().toString()));
                yes("rule 5: written out" + at(tree), !(tree.getType() instanceof ArrayTypeTree)
                    || tree.getInitializer() instanceof NewArrayTree);
            }
            return super.visitVariable(tree, none);
        }

        private void type(Tree type, Tree where) {
            String name = type.toString();
            String single = name.replace("[]", "");
            int dimensions = (name.length() - single.length()) / 2;
            boolean known = SINGLE_TYPES.contains(single) || own.contains(single);
            boolean number = Set.of("int", "long", "short", "byte", "char").contains(single);
            yes("rule 3: a type that stands there" + at(where), known && dimensions <= (number ? 2 : 1));
        }

        @Override
        public Void visitMethodInvocation(MethodInvocationTree tree, Void none) {
            Element called = element(tree.getMethodSelect());
            String owner = ((TypeElement) called.getEnclosingElement()).getQualifiedName().toString();
            seen.add("call");
            if (owner.startsWith("CometKin")) {
                calls.get(method).add(called);
            } else if (!called.getSimpleName().contentEquals("<init>")) {
                yes("rule 4: of the library only what stands there" + at(tree),
                    LIBRARY.getOrDefault(owner, Set.of()).contains(called.getSimpleName().toString()));
            }
            return super.visitMethodInvocation(tree, none);
        }

        @Override
        public Void visitNewClass(NewClassTree tree, Void none) {
            made(tree);
            yes("rule 2: no class without a name" + at(tree), tree.getClassBody() == null);
            yes("rule 4: own classes alone are made" + at(tree), own.contains(tree.getIdentifier().toString()));
            return super.visitNewClass(tree, none);
        }

        @Override
        public Void visitNewArray(NewArrayTree tree, Void none) {
            if (tree.getType() != null) {
                made(tree);
                yes("rule 7: a length is not below 0" + at(tree),
                    tree.getDimensions().toString().matches("Math\\.max\\(\\w+, 0\\)"));
            }
            return super.visitNewArray(tree, none);
        }

        /** Stronger than rule 12: no call makes anything, so that a run makes no more than its objects. */
        private void made(Tree tree) {
            seen.add("new");
            yes("rule 12: made in a constructor" + at(tree),
                method == null || method.getSimpleName().contentEquals("<init>"));
        }

        @Override
        public Void visitArrayAccess(ArrayAccessTree tree, Void none) {
            seen.add("array");
            yes("rule 7: an index is held against the length" + at(tree),
                body.contains(tree.getIndex() + " < " + tree.getExpression() + ".length"));
            yes("rule 7: an index is held against 0" + at(tree),
                body.contains(tree.getIndex() + " >= 0") || body.contains("int " + tree.getIndex() + " = 0"));
            yes("rule 5: no element of a constant is changed" + at(tree),
                !element(tree.getExpression()).getModifiers().contains(Modifier.STATIC));
            return super.visitArrayAccess(tree, none);
        }

        @Override
        public Void visitBinary(BinaryTree tree, Void none) {
            String left = typeOf(tree.getLeftOperand());
            String right = typeOf(tree.getRightOperand());
            boolean texts = left.equals("java.lang.String") || right.equals("java.lang.String");
            yes("rules 6, 10: no text joined by + or held against one by ==" + at(tree), !texts);
            if (tree.getKind() == Tree.Kind.DIVIDE || tree.getKind() == Tree.Kind.REMAINDER) {
                divisor(tree.getRightOperand(), tree);
            }
            return super.visitBinary(tree, none);
        }

        @Override
        public Void visitCompoundAssignment(CompoundAssignmentTree tree, Void none) {
            yes("rule 10: no text joined by +=" + at(tree), !typeOf(tree.getVariable()).equals("java.lang.String"));
            if (tree.getKind() == Tree.Kind.DIVIDE_ASSIGNMENT || tree.getKind() == Tree.Kind.REMAINDER_ASSIGNMENT) {
                divisor(tree.getExpression(), tree);
            }
            return super.visitCompoundAssignment(tree, none);
        }

        private void divisor(ExpressionTree divisor, Tree where) {
            seen.add("division");
            boolean constant = divisor.toString().matches("[1-9]\\d*|[A-Z_]+");
            yes("rule 7: a divisor is a constant or looked at" + at(where), constant
                || Arrays.stream(new String[] {" == 0", " > 0", " <= 0", " = 1"}).anyMatch(it -> body.contains(divisor + it)));
        }

        @Override
        public Void visitTypeCast(TypeCastTree tree, Void none) {
            yes("rule 6: no cast among classes" + at(tree), SINGLE_TYPES.contains(tree.getType().toString()));
            return super.visitTypeCast(tree, none);
        }

        @Override
        public Void visitForLoop(ForLoopTree tree, Void none) {
            loop(tree.getCondition(), tree);
            return super.visitForLoop(tree, none);
        }

        @Override
        public Void visitWhileLoop(WhileLoopTree tree, Void none) {
            loop(tree.getCondition(), tree);
            return super.visitWhileLoop(tree, none);
        }

        @Override
        public Void visitDoWhileLoop(DoWhileLoopTree tree, Void none) {
            loop(tree.getCondition(), tree);
            return super.visitDoWhileLoop(tree, none);
        }

        private void loop(ExpressionTree condition, Tree where) {
            seen.add("loop");
            yes("rule 9: a counter against a bound" + at(where),
                condition != null && condition.toString().matches("(?s).* (<|>|<=|>=) .*"));
        }
    }

    // ---- who calls whom

    private void callsGoDown() {
        Map<Element, Integer> depths = new HashMap<>();
        for (Element method : calls.keySet()) {
            int depth = depth(method, depths, new ArrayList<>());
            yes("rule 11: calls go at most eight deep from " + method, depth <= 8);
            if (calls.get(method).contains(method)) {
                yes("rule 8: who calls itself is private and static: " + method,
                    method.getModifiers().containsAll(Set.of(Modifier.PRIVATE, Modifier.STATIC)));
                yes("rule 8: and is told how deep it is: " + method, ((ExecutableElement) method).getParameters().stream()
                    .anyMatch(it -> it.getSimpleName().contentEquals("depth")));
            }
        }
    }

    /** The most calls that stand open at once from a method on; a call of itself is not followed. */
    private int depth(Element method, Map<Element, Integer> depths, List<Element> open) {
        yes("rule 8: methods that call one another: " + method + " from " + open, !open.contains(method));
        if (depths.containsKey(method) || open.contains(method)) {
            return depths.getOrDefault(method, 0);
        }
        open.add(method);
        int most = 0;
        for (Element called : calls.getOrDefault(method, Set.of())) {
            most = Math.max(most, called.equals(method) ? 0 : depth(called, depths, open));
        }
        open.remove(method);
        depths.put(method, most + 1);
        return most + 1;
    }
}
