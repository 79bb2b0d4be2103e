import com.sun.source.tree.AnnotationTree;
import com.sun.source.tree.AssertTree;
import com.sun.source.tree.BinaryTree;
import com.sun.source.tree.ClassTree;
import com.sun.source.tree.CompilationUnitTree;
import com.sun.source.tree.CompoundAssignmentTree;
import com.sun.source.tree.DoWhileLoopTree;
import com.sun.source.tree.ForLoopTree;
import com.sun.source.tree.InstanceOfTree;
import com.sun.source.tree.LambdaExpressionTree;
import com.sun.source.tree.LiteralTree;
import com.sun.source.tree.MemberReferenceTree;
import com.sun.source.tree.MethodInvocationTree;
import com.sun.source.tree.MethodTree;
import com.sun.source.tree.NewArrayTree;
import com.sun.source.tree.NewClassTree;
import com.sun.source.tree.SynchronizedTree;
import com.sun.source.tree.ThrowTree;
import com.sun.source.tree.Tree;
import com.sun.source.tree.TryTree;
import com.sun.source.tree.TypeCastTree;
import com.sun.source.tree.VariableTree;
import com.sun.source.tree.WhileLoopTree;
import com.sun.source.util.JavacTask;
import com.sun.source.util.TreePath;
import com.sun.source.util.TreePathScanner;
import com.sun.source.util.Trees;
import java.io.IOException;
import java.nio.file.Path;
import java.util.HashSet;
import java.util.List;
import java.util.Map;
import java.util.Set;
import java.util.TreeMap;
import java.util.TreeSet;
import javax.lang.model.element.Element;
import javax.lang.model.element.ExecutableElement;
import javax.lang.model.element.Modifier;
import javax.lang.model.type.TypeKind;
import javax.lang.model.type.TypeMirror;
import javax.tools.JavaCompiler;
import javax.tools.StandardJavaFileManager;
import javax.tools.ToolProvider;

/** Rules of ../shared/LANGUAGE.md, looked at in the tree that the compiler makes of the source. */
public final class LanguageTreeTest {
    private static final Path SOURCE = Path.of("src/main/java/NodPost.java");
    private static final Set<String> STRING_CALLS = Set.of("length", "charAt", "isEmpty", "equals", "indexOf", "substring",
        "toCharArray");
    private static final Set<String> EXCEPTIONS = Set.of("java.lang.IllegalStateException",
        "java.lang.IllegalArgumentException", "java.lang.IndexOutOfBoundsException", "java.lang.ArithmeticException",
        "java.lang.UnsupportedOperationException", "java.util.NoSuchElementException", "java.lang.RuntimeException");
    private static final Set<String> TYPES = Set.of("int", "long", "short", "byte", "char", "boolean", "int[]", "long[]",
        "short[]", "byte[]", "char[]", "boolean[]", "java.lang.String");
    private static final Set<String> CONSTANTS = Set.of("int", "long", "boolean", "char", "java.lang.String", "int[]",
        "long[]", "char[]", "byte[]");
    /** Rule 11: calls that are no recursion. */
    private static final int MOST_DEEP = 8;
    /** Rule 8: calls that stand open at once. */
    private static final int MOST_OPEN = 300;
    /** A rule's expressions: six within each other, through these methods each. */
    private static final int MOST_LEVELS = 7;

    private LanguageTreeTest() {
    }

    public static void main(String[] args) throws IOException {
        JavaCompiler compiler = ToolProvider.getSystemJavaCompiler();
        try (StandardJavaFileManager files = compiler.getStandardFileManager(null, null, null)) {
            JavacTask task = (JavacTask) compiler.getTask(null, files, null, List.of("-proc:none"), null,
                files.getJavaFileObjects(SOURCE));
            CompilationUnitTree unit = task.parse().iterator().next();
            task.analyze();
            Looker looker = new Looker(Trees.instance(task), unit);
            looker.scan(unit, null);
            Check.is("classes of the file", unit.getTypeDecls().size(), 1);
            Check.is("a package", unit.getPackageName(), null);
            depths(looker.calls);
        }
        Check.end("LanguageTreeTest");
    }

    /** The longest row of calls, all that call one another counting as one; and how many of these there are. */
    private static void depths(Map<String, Set<String>> calls) {
        Map<String, Set<String>> reached = new TreeMap<>();
        for (String method : calls.keySet()) {
            Set<String> found = new HashSet<>();
            reach(calls, method, found);
            reached.put(method, found);
        }
        Set<String> circle = new TreeSet<>();
        for (String method : calls.keySet()) {
            if (reached.get(method).contains(method)) {
                circle.add(method);
            }
        }
        int deepest = 0;
        for (String method : calls.keySet()) {
            deepest = Math.max(deepest, depth(calls, circle, method, new HashSet<>()));
        }
        Check.is("calls go too deep: " + deepest, deepest > MOST_DEEP, false);
        Check.is("too many calls stand open", deepest + circle.size() * MOST_LEVELS > MOST_OPEN, false);
        for (String method : circle) {
            Check.is("recursion outside the reader: " + method, method.startsWith("Reader.reads"), true);
        }
    }

    private static void reach(Map<String, Set<String>> calls, String method, Set<String> found) {
        for (String next : calls.getOrDefault(method, Set.of())) {
            if (found.add(next)) {
                reach(calls, next, found);
            }
        }
    }

    private static int depth(Map<String, Set<String>> calls, Set<String> circle, String method, Set<String> open) {
        if (!open.add(method)) {
            return 0;
        }
        int deepest = 0;
        for (String next : calls.getOrDefault(method, Set.of())) {
            deepest = Math.max(deepest, depth(calls, circle, next, open));
        }
        open.remove(method);
        return deepest + (circle.contains(method) ? 0 : 1);
    }

    private static final class Looker extends TreePathScanner<Void, Void> {
        final Map<String, Set<String>> calls = new TreeMap<>();
        private final Trees trees;
        private final CompilationUnitTree unit;
        private String method = "";

        Looker(Trees trees, CompilationUnitTree unit) {
            this.trees = trees;
            this.unit = unit;
        }

        private void rule(int number, Tree tree, boolean holds) {
            long line = unit.getLineMap().getLineNumber(trees.getSourcePositions().getStartPosition(unit, tree));
            Check.is("rule " + number + " holds in line " + line, holds, true);
        }

        private TypeMirror type(Tree tree) {
            return trees.getTypeMirror(new TreePath(getCurrentPath(), tree));
        }

        private static boolean isOwn(String type) {
            return type.startsWith("NodPost");
        }

        private boolean isWithin(Tree.Kind kind) {
            for (TreePath path = getCurrentPath(); path != null; path = path.getParentPath()) {
                if (path.getLeaf().getKind() == kind) {
                    return true;
                }
            }
            return false;
        }

        private static String nameOf(Element element) {
            return element.getEnclosingElement().getSimpleName() + "." + element.getSimpleName();
        }

        @Override
        public Void visitClass(ClassTree tree, Void none) {
            rule(2, tree, !isWithin(Tree.Kind.METHOD));
            rule(2, tree, tree.getTypeParameters().isEmpty());
            return super.visitClass(tree, none);
        }

        @Override
        public Void visitMethod(MethodTree tree, Void none) {
            method = nameOf(trees.getElement(getCurrentPath()));
            calls.putIfAbsent(method, new TreeSet<>());
            rule(11, tree, tree.getParameters().size() <= 7);
            return super.visitMethod(tree, none);
        }

        @Override
        public Void visitMethodInvocation(MethodInvocationTree tree, Void none) {
            ExecutableElement called = (ExecutableElement) trees.getElement(getCurrentPath());
            String owner = called.getEnclosingElement().toString();
            String name = called.getSimpleName().toString();
            if (isOwn(owner)) {
                boolean isValues = name.equals("values");
                rule(12, tree, !isValues || !isWithin(Tree.Kind.METHOD));
                if (!isValues && !name.equals("<init>")) {
                    calls.get(method).add(nameOf(called));
                }
            } else if (!name.equals("<init>")) {
                rule(4, tree, owner.equals("java.lang.String") && STRING_CALLS.contains(name)
                    || owner.equals("java.lang.System") && name.equals("arraycopy")
                    || owner.matches("java.lang.(Math|Integer|Long)") && isOverNumbers(called)
                        && called.getModifiers().contains(Modifier.STATIC) && !name.endsWith("Exact"));
            }
            return super.visitMethodInvocation(tree, none);
        }

        private static boolean isOverNumbers(ExecutableElement called) {
            return called.getParameters().stream().allMatch(
                one -> one.asType().getKind() == TypeKind.INT || one.asType().getKind() == TypeKind.LONG);
        }

        @Override
        public Void visitVariable(VariableTree tree, Void none) {
            Element variable = trees.getElement(getCurrentPath());
            String type = variable.asType().toString();
            rule(3, tree, TYPES.contains(type) || isOwn(type.replace("[]", "")));
            if (variable.getModifiers().contains(Modifier.STATIC)) {
                rule(5, tree, variable.getModifiers().contains(Modifier.FINAL));
                rule(5, tree, CONSTANTS.contains(type) || type.startsWith("NodPost.Token"));
            }
            return super.visitVariable(tree, none);
        }

        @Override
        public Void visitThrow(ThrowTree tree, Void none) {
            rule(6, tree, tree.getExpression() instanceof NewClassTree);
            rule(6, tree, !method.endsWith("<init>"));
            return super.visitThrow(tree, none);
        }

        @Override
        public Void visitNewClass(NewClassTree tree, Void none) {
            String type = type(tree.getIdentifier()).toString();
            if (isWithin(Tree.Kind.THROW)) {
                rule(6, tree, EXCEPTIONS.contains(type));
                rule(6, tree, tree.getArguments().stream().allMatch(one -> one instanceof LiteralTree));
            } else {
                // What the object needs is made once, with it: no call makes anything.
                rule(12, tree, isOwn(type) && !isWithin(Tree.Kind.METHOD));
            }
            return super.visitNewClass(tree, none);
        }

        @Override
        public Void visitNewArray(NewArrayTree tree, Void none) {
            rule(12, tree, !isWithin(Tree.Kind.METHOD));
            rule(3, tree, tree.getDimensions().size() <= 1);
            return super.visitNewArray(tree, none);
        }

        @Override
        public Void visitBinary(BinaryTree tree, Void none) {
            boolean isEqual = tree.getKind() == Tree.Kind.EQUAL_TO || tree.getKind() == Tree.Kind.NOT_EQUAL_TO;
            for (Tree side : List.of(tree.getLeftOperand(), tree.getRightOperand())) {
                String type = type(side).toString();
                boolean isText = type.equals("java.lang.String");
                rule(10, tree, !isText);
                rule(6, tree, !isEqual || type(side).getKind().isPrimitive() || isOwn(type) || type.equals("<nulltype>"));
            }
            rule(7, tree, tree.getKind() != Tree.Kind.DIVIDE && tree.getKind() != Tree.Kind.REMAINDER || isTested(tree));
            return super.visitBinary(tree, none);
        }

        /** A divisor that isn't a constant stands in a ?: or behind an if of the same method that looks at it. */
        private boolean isTested(BinaryTree tree) {
            String divisor = tree.getRightOperand().toString();
            if (divisor.matches("[A-Z_]+|[1-9][0-9]*")) {
                return true;
            }
            for (TreePath path = getCurrentPath(); path != null; path = path.getParentPath()) {
                if (path.getLeaf() instanceof MethodTree around) {
                    return around.getBody().toString().matches("(?s).*\\b" + divisor + " (==|<|<=|>|!=) [01]\\b.*");
                }
            }
            return false;
        }

        @Override
        public Void visitCompoundAssignment(CompoundAssignmentTree tree, Void none) {
            boolean divides = tree.getKind() == Tree.Kind.DIVIDE_ASSIGNMENT
                || tree.getKind() == Tree.Kind.REMAINDER_ASSIGNMENT;
            rule(7, tree, !divides);
            rule(10, tree, !type(tree.getVariable()).toString().equals("java.lang.String"));
            return super.visitCompoundAssignment(tree, none);
        }

        @Override
        public Void visitForLoop(ForLoopTree tree, Void none) {
            rule(9, tree, tree.getCondition() != null && !tree.getUpdate().isEmpty());
            return super.visitForLoop(tree, none);
        }

        @Override
        public Void visitWhileLoop(WhileLoopTree tree, Void none) {
            rule(9, tree, tree.getCondition().toString().matches(".*\\b(start|end|nots) < .*"));
            return super.visitWhileLoop(tree, none);
        }

        @Override
        public Void visitTypeCast(TypeCastTree tree, Void none) {
            rule(6, tree, type(tree.getType()).getKind().isPrimitive());
            return super.visitTypeCast(tree, none);
        }

        @Override
        public Void visitDoWhileLoop(DoWhileLoopTree tree, Void none) {
            rule(9, tree, false);
            return null;
        }

        @Override
        public Void visitLambdaExpression(LambdaExpressionTree tree, Void none) {
            rule(2, tree, false);
            return null;
        }

        @Override
        public Void visitMemberReference(MemberReferenceTree tree, Void none) {
            rule(2, tree, false);
            return null;
        }

        @Override
        public Void visitTry(TryTree tree, Void none) {
            rule(6, tree, false);
            return null;
        }

        @Override
        public Void visitSynchronized(SynchronizedTree tree, Void none) {
            rule(6, tree, false);
            return null;
        }

        @Override
        public Void visitAssert(AssertTree tree, Void none) {
            rule(6, tree, false);
            return null;
        }

        @Override
        public Void visitInstanceOf(InstanceOfTree tree, Void none) {
            rule(6, tree, false);
            return null;
        }

        @Override
        public Void visitAnnotation(AnnotationTree tree, Void none) {
            rule(4, tree, false);
            return null;
        }
    }
}
