import com.sun.source.tree.AssertTree;
import com.sun.source.tree.BinaryTree;
import com.sun.source.tree.BlockTree;
import com.sun.source.tree.ClassTree;
import com.sun.source.tree.CompilationUnitTree;
import com.sun.source.tree.EnhancedForLoopTree;
import com.sun.source.tree.ExpressionTree;
import com.sun.source.tree.ImportTree;
import com.sun.source.tree.LambdaExpressionTree;
import com.sun.source.tree.LiteralTree;
import com.sun.source.tree.MemberReferenceTree;
import com.sun.source.tree.MethodInvocationTree;
import com.sun.source.tree.MethodTree;
import com.sun.source.tree.NewClassTree;
import com.sun.source.tree.SynchronizedTree;
import com.sun.source.tree.ThrowTree;
import com.sun.source.tree.Tree;
import com.sun.source.tree.TryTree;
import com.sun.source.tree.VariableTree;
import com.sun.source.tree.WhileLoopTree;
import com.sun.source.util.JavacTask;
import com.sun.source.util.SourcePositions;
import com.sun.source.util.TreePath;
import com.sun.source.util.TreePathScanner;
import com.sun.source.util.Trees;
import java.io.File;
import java.util.ArrayList;
import java.util.LinkedHashMap;
import java.util.LinkedHashSet;
import java.util.List;
import java.util.Map;
import java.util.Set;
import javax.lang.model.element.Element;
import javax.lang.model.element.ElementKind;
import javax.lang.model.element.Modifier;
import javax.lang.model.type.ArrayType;
import javax.lang.model.type.TypeKind;
import javax.lang.model.type.TypeMirror;
import javax.tools.JavaCompiler;
import javax.tools.StandardJavaFileManager;
import javax.tools.ToolProvider;

/** Those rules of LANGUAGE.md that a look at the program's text can decide; the number is the rule's. */
public final class LanguageTest extends TreePathScanner<Void, Void> {
    private static final File PROGRAM = new File("src/main/java/LineCollector.java");
    private static final Set<String> THROWN = Set.of("IllegalStateException", "IllegalArgumentException",
        "IndexOutOfBoundsException", "ArithmeticException", "UnsupportedOperationException",
        "NoSuchElementException", "RuntimeException");
    private static final Set<String> LIBRARY = Set.of("java.lang.Math", "java.lang.Integer", "java.lang.Long",
        "java.util.Arrays", "java.util.ArrayList", "java.util.List", "java.lang.String", "java.lang.StringBuilder");

    private final Check check;
    private final Trees trees;
    private final CompilationUnitTree unit;
    private final Map<Element, Set<Element>> calls = new LinkedHashMap<>();
    private int classes;

    private LanguageTest(Check check, Trees trees, CompilationUnitTree unit) {
        this.check = check;
        this.trees = trees;
        this.unit = unit;
    }

    public static void main(String[] args) throws Exception {
        Check check = new Check();
        JavaCompiler compiler = ToolProvider.getSystemJavaCompiler();
        try (StandardJavaFileManager files = compiler.getStandardFileManager(null, null, null)) {
            JavacTask task = (JavacTask) compiler.getTask(null, files, null, List.of("-proc:none"), null,
                files.getJavaFileObjects(PROGRAM));
            CompilationUnitTree unit = task.parse().iterator().next();
            task.analyze();
            LanguageTest test = new LanguageTest(check, Trees.instance(task), unit);
            test.unit();
            test.scan(unit, null);
            test.whole();
        }
        check.end();
    }

    private void holds(String rule, Tree where, boolean right) {
        long line = unit.getLineMap().getLineNumber(trees.getSourcePositions().getStartPosition(unit, where));
        check.due(rule + ", line " + line, right, true);
    }

    private void unit() {
        check.due("no package line", unit.getPackageName() == null, true);
        check.due("one class in the file", unit.getTypeDecls().size(), 1);
        for (ImportTree used : unit.getImports()) {
            String name = used.getQualifiedIdentifier().toString();
            holds("4: imports", used, !used.isStatic()
                && (LIBRARY.contains(name) || name.equals("java.util.NoSuchElementException")));
        }
    }

    private void whole() {
        check.due("11: at most twelve classes", classes <= 12, true);
        for (Element method : calls.keySet()) {
            List<Element> open = new ArrayList<>();
            check.due("8, 11: calls from " + method + " go at most eight deep", depth(method, open) <= 8, true);
        }
    }

    /** How many calls stand open at once; far above all bounds if a method calls itself. */
    private int depth(Element method, List<Element> open) {
        if (open.contains(method)) {
            return 1000;
        }
        open.add(method);
        int deepest = 0;
        for (Element called : calls.getOrDefault(method, Set.of())) {
            deepest = Math.max(deepest, depth(called, open));
        }
        open.remove(method);
        return deepest + 1;
    }

    private Element element() {
        return trees.getElement(getCurrentPath());
    }

    private boolean isOwn(Element element) {
        TreePath path = trees.getPath(element);
        return path != null && path.getCompilationUnit() == unit;
    }

    private Element methodAround() {
        TreePath path = getCurrentPath();
        while (path != null && !(path.getLeaf() instanceof MethodTree)) {
            path = path.getParentPath();
        }
        return path == null ? null : trees.getElement(path);
    }

    @Override
    public Void visitClass(ClassTree node, Void none) {
        classes++;
        Set<Modifier> flags = element().getModifiers();
        if (getCurrentPath().getParentPath().getLeaf() instanceof ClassTree) {
            holds("1: classes inside are static and not public", node, flags.contains(Modifier.STATIC)
                && !flags.contains(Modifier.PUBLIC) && !flags.contains(Modifier.PROTECTED));
        }
        int fields = 0;
        for (Tree member : node.getMembers()) {
            boolean isStatic = member instanceof VariableTree v && v.getModifiers().getFlags().contains(Modifier.STATIC);
            fields += member instanceof VariableTree && !isStatic ? 1 : 0;
            holds("5: no initialiser block", member, !(member instanceof BlockTree));
        }
        holds("11: at most twenty fields", node, fields <= 20);
        return super.visitClass(node, none);
    }

    @Override
    public Void visitMethod(MethodTree node, Void none) {
        calls.computeIfAbsent(element(), m -> new LinkedHashSet<>());
        SourcePositions at = trees.getSourcePositions();
        long first = at.getStartPosition(unit, node);
        // The constructor that the compiler adds has no end in the text.
        if (at.getEndPosition(unit, node) > first) {
            long lines = unit.getLineMap().getLineNumber(at.getEndPosition(unit, node))
                - unit.getLineMap().getLineNumber(first);
            holds("11: methods stay short", node, lines < 60);
        }
        holds("11: at most seven parameters", node, node.getParameters().size() <= 7);
        for (String banned : List.of("equals", "hashCode", "toString")) {
            holds("6: no " + banned, node, !node.getName().contentEquals(banned));
        }
        return super.visitMethod(node, none);
    }

    @Override
    public Void visitVariable(VariableTree node, Void none) {
        Element variable = element();
        holds("3: type of " + node.getName(), node, isAllowed(variable.asType()));
        if (variable.getKind() == ElementKind.FIELD && variable.getModifiers().contains(Modifier.STATIC)) {
            holds("5: static fields are final", node, variable.getModifiers().contains(Modifier.FINAL));
        }
        return super.visitVariable(node, none);
    }

    private boolean isAllowed(TypeMirror type) {
        if (type.getKind().isPrimitive()) {
            return true;
        }
        if (type.getKind() == TypeKind.ARRAY) {
            return isAllowed(((ArrayType) type).getComponentType());
        }
        return type.toString().startsWith("LineCollector") || LIBRARY.contains(type.toString().replaceAll("<.*>", ""));
    }

    @Override
    public Void visitMethodInvocation(MethodInvocationTree node, Void none) {
        Element called = element();
        if (isOwn(called)) {
            calls.get(methodAround()).add(called);
        } else if (called.getKind() == ElementKind.METHOD) {
            String owner = called.getEnclosingElement().toString();
            holds("4: library call " + node, node, LIBRARY.contains(owner)
                && !called.getSimpleName().toString().endsWith("Exact"));
        }
        return super.visitMethodInvocation(node, none);
    }

    @Override
    public Void visitNewClass(NewClassTree node, Void none) {
        Element made = element();
        Element around = methodAround();
        // A field's initialiser is in no method, and what it makes is made by the constructor.
        if (around != null && isOwn(made)) {
            calls.get(around).add(made);
        }
        holds("2: no anonymous class", node, node.getClassBody() == null);
        return super.visitNewClass(node, none);
    }

    @Override
    public Void visitThrow(ThrowTree node, Void none) {
        boolean right = false;
        if (node.getExpression() instanceof NewClassTree made) {
            List<? extends ExpressionTree> told = made.getArguments();
            right = THROWN.contains(made.getIdentifier().toString())
                && (told.isEmpty() || told.size() == 1 && told.get(0) instanceof LiteralTree);
        }
        holds("6: what is thrown", node, right);
        Element around = methodAround();
        holds("6: no throw in a constructor", node, around != null && around.getKind() != ElementKind.CONSTRUCTOR);
        return super.visitThrow(node, none);
    }

    @Override
    public Void visitBinary(BinaryTree node, Void none) {
        TypeMirror type = trees.getTypeMirror(getCurrentPath());
        holds("10: texts are not joined by +", node, !type.toString().equals("java.lang.String"));
        return super.visitBinary(node, none);
    }

    @Override
    public Void visitWhileLoop(WhileLoopTree node, Void none) {
        holds("9: a bound in the loop's own condition", node, node.getCondition().toString().contains("<"));
        return super.visitWhileLoop(node, none);
    }

    @Override
    public Void visitEnhancedForLoop(EnhancedForLoopTree node, Void none) {
        TypeMirror type = trees.getTypeMirror(new TreePath(getCurrentPath(), node.getExpression()));
        holds("12: loops over a list go by index", node, type.getKind() == TypeKind.ARRAY);
        return super.visitEnhancedForLoop(node, none);
    }

    @Override
    public Void visitLambdaExpression(LambdaExpressionTree node, Void none) {
        holds("2: no lambda", node, false);
        return super.visitLambdaExpression(node, none);
    }

    @Override
    public Void visitMemberReference(MemberReferenceTree node, Void none) {
        holds("2: no method reference", node, false);
        return super.visitMemberReference(node, none);
    }

    @Override
    public Void visitTry(TryTree node, Void none) {
        holds("6: no finally, no resources", node, node.getFinallyBlock() == null && node.getResources().isEmpty());
        return super.visitTry(node, none);
    }

    @Override
    public Void visitAssert(AssertTree node, Void none) {
        holds("6: no assert", node, false);
        return super.visitAssert(node, none);
    }

    @Override
    public Void visitSynchronized(SynchronizedTree node, Void none) {
        holds("6: no synchronized", node, false);
        return super.visitSynchronized(node, none);
    }
}
