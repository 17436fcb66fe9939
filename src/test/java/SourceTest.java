import com.sun.source.tree.AssertTree;
import com.sun.source.tree.BinaryTree;
import com.sun.source.tree.ClassTree;
import com.sun.source.tree.CompilationUnitTree;
import com.sun.source.tree.CompoundAssignmentTree;
import com.sun.source.tree.ForLoopTree;
import com.sun.source.tree.InstanceOfTree;
import com.sun.source.tree.LambdaExpressionTree;
import com.sun.source.tree.LiteralTree;
import com.sun.source.tree.MemberReferenceTree;
import com.sun.source.tree.MethodInvocationTree;
import com.sun.source.tree.MethodTree;
import com.sun.source.tree.NewArrayTree;
import com.sun.source.tree.NewClassTree;
import com.sun.source.tree.SynchronizedTree;
import com.sun.source.tree.ThrowTree;
import com.sun.source.tree.Tree;
import com.sun.source.tree.TryTree;
import com.sun.source.tree.TypeCastTree;
import com.sun.source.util.JavacTask;
import com.sun.source.util.TreePath;
import com.sun.source.util.TreePathScanner;
import com.sun.source.util.Trees;
import java.nio.file.Paths;
import java.util.ArrayList;
import java.util.Arrays;
import java.util.HashMap;
import java.util.HashSet;
import java.util.List;
import java.util.Map;
import java.util.Set;
import java.util.TreeSet;
import javax.lang.model.element.Element;
import javax.lang.model.element.ElementKind;
import javax.lang.model.element.ExecutableElement;
import javax.lang.model.element.Modifier;
import javax.lang.model.element.TypeElement;
import javax.lang.model.type.TypeKind;
import javax.tools.JavaCompiler;
import javax.tools.StandardJavaFileManager;
import javax.tools.ToolProvider;

/** The rules of LANGUAGE.md that the compiler's own reading of the class shows: what is called, made and left out. */
public final class SourceTest {
    private static final Check check = new Check("SourceTest");
    private static final Set<String> LIBRARY = new TreeSet<>(Arrays.asList("java.lang.String.length",
            "java.lang.String.charAt", "java.lang.System.arraycopy", "java.lang.Math.min", "java.lang.Math.max",
            "java.lang.Math.abs", "java.lang.Integer.bitCount", "java.lang.Object.<init>"));
    private static final int MOST_DEEP = 8;
    private static final int MOST_CLASSES = 12;
    private static final int MOST_LINES = 60;
    private static final int MOST_PARAMETERS = 7;

    private static final Map<Element, Set<Element>> calls = new HashMap<>();
    private static int classes = 0;

    public static void main(String[] args) throws Exception {
        JavaCompiler compiler = ToolProvider.getSystemJavaCompiler();
        try (StandardJavaFileManager files = compiler.getStandardFileManager(null, null, null)) {
            JavacTask task = (JavacTask) compiler.getTask(null, files, null, Arrays.asList("-proc:none"), null,
                    files.getJavaFileObjects(Paths.get("src/main/java/PumpTalk.java")));
            List<CompilationUnitTree> units = new ArrayList<>();
            task.parse().forEach(units::add);
            task.analyze();
            for (CompilationUnitTree unit : units) {
                check.due("imports", unit.getImports().size(), 0);
                check.due("a package", unit.getPackage() == null ? 0 : 1, 0);
                check.due("classes on top", unit.getTypeDecls().size(), 1);
                new Rules(Trees.instance(task)).scan(unit, null);
            }
        }
        check.due("classes: " + classes, classes > MOST_CLASSES ? 1 : 0, 0);
        for (Element method : calls.keySet()) {
            int deep = deep(method, new HashSet<>());
            check.due(method + " goes " + deep + " deep", deep > MOST_DEEP ? 1 : 0, 0);
        }
        check.end();
    }

    /** How many calls stand open at once, the first one counted; the class has no recursion. */
    private static int deep(Element method, Set<Element> open) {
        if (!calls.containsKey(method)) {
            return 0;
        }
        check.due(method + " calls itself", open.add(method) ? 0 : 1, 0);
        int deepest = 0;
        for (Element called : calls.get(method)) {
            deepest = open.contains(called) ? Integer.MAX_VALUE / 2 : Math.max(deepest, deep(called, open));
        }
        open.remove(method);
        return deepest + 1;
    }

    private static final class Rules extends TreePathScanner<Void, Void> {
        private final Trees trees;
        private Element method;

        Rules(Trees trees) {
            this.trees = trees;
        }

        private Element element() {
            return trees.getElement(getCurrentPath());
        }

        private void none(String what, Tree tree) {
            check.due(what + ": " + tree, 1, 0);
        }

        @Override public Void visitClass(ClassTree tree, Void v) {
            classes++;
            Element made = element();
            boolean isTop = getCurrentPath().getParentPath().getLeaf() instanceof CompilationUnitTree;
            check.due(made + " is static", isTop || made.getModifiers().contains(Modifier.STATIC) ? 1 : 0, 1);
            check.due(made + " isn't local", isTop || made.getEnclosingElement() instanceof TypeElement ? 1 : 0, 1);
            return super.visitClass(tree, v);
        }

        @Override public Void visitMethod(MethodTree tree, Void v) {
            method = element();
            calls.put(method, new HashSet<>());
            check.due(method + " parameters", tree.getParameters().size() > MOST_PARAMETERS ? 1 : 0, 0);
            check.due(method + " lines", tree.toString().split("\n").length > MOST_LINES + 2 ? 1 : 0, 0);
            super.visitMethod(tree, v);
            method = null;
            return null;
        }

        @Override public Void visitMethodInvocation(MethodInvocationTree tree, Void v) {
            ExecutableElement called = (ExecutableElement) trees.getElement(
                    new TreePath(getCurrentPath(), tree.getMethodSelect()));
            TypeElement owner = (TypeElement) called.getEnclosingElement();
            String name = owner.getQualifiedName() + "." + called.getSimpleName();
            check.due(name + " may be called", name.startsWith("PumpTalk.") || LIBRARY.contains(name) ? 1 : 0, 1);
            if (method != null && name.startsWith("PumpTalk.")) {
                calls.get(method).add(called);
            }
            return super.visitMethodInvocation(tree, v);
        }

        /** What is made is made with the object: a room is never swept. */
        private void made(Tree tree) {
            boolean isMadeOnce = method == null || method.getKind() == ElementKind.CONSTRUCTOR;
            check.due("made by a call: " + tree, isMadeOnce ? 1 : 0, 1);
        }

        @Override public Void visitNewClass(NewClassTree tree, Void v) {
            made(tree);
            check.due("a nameless class: " + tree, tree.getClassBody() == null ? 1 : 0, 1);
            return super.visitNewClass(tree, v);
        }

        @Override public Void visitNewArray(NewArrayTree tree, Void v) {
            made(tree);
            return super.visitNewArray(tree, v);
        }

        private String typeOf(Tree part) {
            return trees.getTypeMirror(new TreePath(getCurrentPath(), part)).toString();
        }

        @Override public Void visitBinary(BinaryTree tree, Void v) {
            for (Tree side : Arrays.asList(tree.getLeftOperand(), tree.getRightOperand())) {
                check.due("texts or boxes: " + tree, typeOf(side).matches("java\\..*") ? 1 : 0, 0);
            }
            if (tree.getKind() == Tree.Kind.DIVIDE || tree.getKind() == Tree.Kind.REMAINDER) {
                divisor(tree.getRightOperand());
            }
            return super.visitBinary(tree, v);
        }

        @Override public Void visitCompoundAssignment(CompoundAssignmentTree tree, Void v) {
            check.due("texts or boxes: " + tree, typeOf(tree.getVariable()).matches("java\\..*") ? 1 : 0, 0);
            if (tree.getKind() == Tree.Kind.DIVIDE_ASSIGNMENT || tree.getKind() == Tree.Kind.REMAINDER_ASSIGNMENT) {
                divisor(tree.getExpression());
            }
            return super.visitCompoundAssignment(tree, v);
        }

        /** The class divides by numbers told in the source alone, none of them 0. */
        private void divisor(Tree tree) {
            boolean isTold = tree instanceof LiteralTree && !((LiteralTree) tree).getValue().equals(0);
            boolean isConstant = tree.toString().matches("[A-Z_]+");
            check.due("a divisor: " + tree, isTold || isConstant ? 1 : 0, 1);
        }

        @Override public Void visitForLoop(ForLoopTree tree, Void v) {
            check.due("a loop without an end: " + tree, tree.getCondition() == null ? 1 : 0, 0);
            return super.visitForLoop(tree, v);
        }

        @Override public Void visitThrow(ThrowTree tree, Void v) {
            none("throw", tree);
            return null;
        }

        @Override public Void visitTry(TryTree tree, Void v) {
            none("try", tree);
            return null;
        }

        @Override public Void visitSynchronized(SynchronizedTree tree, Void v) {
            none("synchronized", tree);
            return null;
        }

        @Override public Void visitAssert(AssertTree tree, Void v) {
            none("assert", tree);
            return null;
        }

        @Override public Void visitLambdaExpression(LambdaExpressionTree tree, Void v) {
            none("lambda", tree);
            return null;
        }

        @Override public Void visitMemberReference(MemberReferenceTree tree, Void v) {
            none("method reference", tree);
            return null;
        }

        @Override public Void visitInstanceOf(InstanceOfTree tree, Void v) {
            none("instanceof", tree);
            return null;
        }

        @Override public Void visitTypeCast(TypeCastTree tree, Void v) {
            TypeKind kind = trees.getTypeMirror(getCurrentPath()).getKind();
            check.due("a cast that could fail: " + tree, kind.isPrimitive() ? 1 : 0, 1);
            return super.visitTypeCast(tree, v);
        }
    }
}
