import com.sun.source.tree.AssertTree;
import com.sun.source.tree.BlockTree;
import com.sun.source.tree.ClassTree;
import com.sun.source.tree.CompilationUnitTree;
import com.sun.source.tree.ImportTree;
import com.sun.source.tree.LambdaExpressionTree;
import com.sun.source.tree.LineMap;
import com.sun.source.tree.MemberReferenceTree;
import com.sun.source.tree.MethodInvocationTree;
import com.sun.source.tree.MethodTree;
import com.sun.source.tree.NewClassTree;
import com.sun.source.tree.SynchronizedTree;
import com.sun.source.tree.ThrowTree;
import com.sun.source.tree.Tree;
import com.sun.source.tree.TryTree;
import com.sun.source.tree.VariableTree;
import com.sun.source.util.JavacTask;
import com.sun.source.util.TreePathScanner;
import com.sun.source.util.Trees;
import java.nio.file.Path;
import java.util.ArrayDeque;
import java.util.Deque;
import java.util.HashMap;
import java.util.HashSet;
import java.util.Map;
import java.util.Set;
import javax.lang.model.element.Element;
import javax.lang.model.element.ElementKind;
import javax.lang.model.element.ExecutableElement;
import javax.lang.model.element.Modifier;
import javax.lang.model.element.TypeElement;
import javax.tools.JavaCompiler;
import javax.tools.StandardJavaFileManager;
import javax.tools.ToolProvider;

/** The rules of ../shared/LANGUAGE.md that the compiler's tree of the file can show. */
public final class RulesTest extends TreePathScanner<Void, Void> {
    private static final Path FILE = Path.of("src/main/java/LockedCarts.java");
    /** What rule 4 lets, as far as the class calls it. */
    private static final Set<String> LIBRARY = Set.of("java.lang.Math.abs", "java.lang.Math.max", "java.lang.Math.min",
        "java.lang.Integer.bitCount", "java.lang.System.arraycopy", "java.util.Arrays.fill", "java.lang.Object.<init>");

    private final Trees trees;
    private final CompilationUnitTree unit;
    private final Deque<ExecutableElement> methods = new ArrayDeque<>();
    private final Map<ExecutableElement, Set<ExecutableElement>> calls = new HashMap<>();
    private final Set<String> faceNames = new HashSet<>();
    private int classes;

    private RulesTest(Trees trees, CompilationUnitTree unit) {
        this.trees = trees;
        this.unit = unit;
    }

    public static void main(String[] args) throws Exception {
        JavaCompiler compiler = ToolProvider.getSystemJavaCompiler();
        try (StandardJavaFileManager files = compiler.getStandardFileManager(null, null, null)) {
            JavacTask task = (JavacTask) compiler.getTask(null, files, null, null, null, files.getJavaFileObjects(FILE));
            CompilationUnitTree unit = task.parse().iterator().next();
            task.analyze();
            RulesTest rules = new RulesTest(Trees.instance(task), unit);
            Check.due("a package line", unit.getPackageName() == null ? 0 : 1, 0);
            Check.due("classes beside the public one", unit.getTypeDecls().size(), 1);
            rules.scan(unit, null);
            Check.due("classes, too many", Math.max(rules.classes, 12), 12);
            rules.depths();
        }
        Check.finish();
    }

    private void broken(String rule, Tree tree) {
        LineMap lines = unit.getLineMap();
        long line = lines.getLineNumber(trees.getSourcePositions().getStartPosition(unit, tree));
        Check.due(rule + " in line " + line, 1, 0);
    }

    private void holds(boolean good, String rule, Tree tree) {
        if (good) {
            Check.due(rule, 0, 0);
        } else {
            broken(rule, tree);
        }
    }

    @Override
    public Void visitImport(ImportTree tree, Void nothing) {
        holds(tree.getQualifiedIdentifier().toString().equals("java.util.Arrays"), "an import", tree);
        return null;
    }

    @Override
    public Void visitClass(ClassTree tree, Void nothing) {
        classes++;
        Element element = trees.getElement(getCurrentPath());
        boolean outer = !(element.getEnclosingElement() instanceof TypeElement);
        if (outer) {
            for (Element member : element.getEnclosedElements()) {
                if (member.getKind() == ElementKind.METHOD && member.getModifiers().contains(Modifier.PUBLIC)) {
                    faceNames.add(member.getSimpleName().toString());
                }
            }
        } else {
            Set<Modifier> modifiers = element.getModifiers();
            boolean closed = !modifiers.contains(Modifier.PUBLIC) && !modifiers.contains(Modifier.PROTECTED);
            holds(modifiers.contains(Modifier.STATIC) && closed, "a class inside that is not static and closed", tree);
        }
        long fields = element.getEnclosedElements().stream()
            .filter(e -> e.getKind() == ElementKind.FIELD && !e.getModifiers().contains(Modifier.STATIC)).count();
        holds(fields <= 20, "a class of more than 20 fields", tree);
        return super.visitClass(tree, nothing);
    }

    @Override
    public Void visitVariable(VariableTree tree, Void nothing) {
        Element element = trees.getElement(getCurrentPath());
        if (element.getModifiers().contains(Modifier.STATIC)) {
            holds(element.getModifiers().contains(Modifier.FINAL), "a static field that is not final", tree);
        }
        return super.visitVariable(tree, nothing);
    }

    @Override
    public Void visitMethod(MethodTree tree, Void nothing) {
        ExecutableElement method = (ExecutableElement) trees.getElement(getCurrentPath());
        LineMap lines = unit.getLineMap();
        long first = lines.getLineNumber(trees.getSourcePositions().getStartPosition(unit, tree));
        long last = lines.getLineNumber(trees.getSourcePositions().getEndPosition(unit, tree));
        holds(last - first < 60, "a method of more than 60 lines", tree);
        holds(tree.getParameters().size() <= 7, "a method of more than 7 parameters", tree);
        boolean open = method.getModifiers().contains(Modifier.PUBLIC);
        boolean named = faceNames.contains(method.getSimpleName().toString());
        holds(open || !named, "a method with the name of a public one", tree);
        holds(tree.getThrows().isEmpty(), "a throws clause", tree);
        methods.push(method);
        calls.computeIfAbsent(method, m -> new HashSet<>());
        super.visitMethod(tree, nothing);
        methods.pop();
        return null;
    }

    @Override
    public Void visitMethodInvocation(MethodInvocationTree tree, Void nothing) {
        called((ExecutableElement) trees.getElement(getCurrentPath()), tree);
        return super.visitMethodInvocation(tree, nothing);
    }

    @Override
    public Void visitNewClass(NewClassTree tree, Void nothing) {
        holds(tree.getClassBody() == null, "an anonymous class", tree);
        called((ExecutableElement) trees.getElement(getCurrentPath()), tree);
        return super.visitNewClass(tree, nothing);
    }

    private void called(ExecutableElement callee, Tree tree) {
        String owner = ((TypeElement) callee.getEnclosingElement()).getQualifiedName().toString();
        boolean own = owner.startsWith("LockedCarts");
        holds(own || LIBRARY.contains(owner + "." + callee.getSimpleName()), "a call of the library", tree);
        if (own && !methods.isEmpty()) {
            calls.get(methods.peek()).add(callee);
        }
    }

    /** Calls that are no recursion go at most eight deep; there is no recursion here. */
    private void depths() {
        int deepest = 0;
        for (ExecutableElement method : calls.keySet()) {
            int depth = depth(method, Set.of());
            Check.due("depth of " + method + ", too deep", Math.max(depth, 8), 8);
            deepest = Math.max(deepest, depth);
        }
        System.out.println("      calls go " + deepest + " deep, in " + classes + " classes");
    }

    private int depth(ExecutableElement method, Set<ExecutableElement> above) {
        if (above.contains(method)) {
            Check.due("recursion in " + method, 1, 0);
            return 0;
        }
        Set<ExecutableElement> chain = new HashSet<>(above);
        chain.add(method);
        int deepest = 0;
        for (ExecutableElement callee : calls.getOrDefault(method, Set.of())) {
            deepest = Math.max(deepest, depth(callee, chain));
        }
        return deepest + 1;
    }

    @Override
    public Void visitBlock(BlockTree tree, Void nothing) {
        holds(!tree.isStatic(), "a static initialiser", tree);
        return super.visitBlock(tree, nothing);
    }

    @Override
    public Void visitThrow(ThrowTree tree, Void nothing) {
        broken("a throw", tree);
        return null;
    }

    @Override
    public Void visitTry(TryTree tree, Void nothing) {
        broken("a try", tree);
        return null;
    }

    @Override
    public Void visitAssert(AssertTree tree, Void nothing) {
        broken("an assert", tree);
        return null;
    }

    @Override
    public Void visitSynchronized(SynchronizedTree tree, Void nothing) {
        broken("a synchronized", tree);
        return null;
    }

    @Override
    public Void visitLambdaExpression(LambdaExpressionTree tree, Void nothing) {
        broken("a lambda", tree);
        return null;
    }

    @Override
    public Void visitMemberReference(MemberReferenceTree tree, Void nothing) {
        broken("a method reference", tree);
        return null;
    }
}
