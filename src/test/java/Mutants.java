import com.sun.source.tree.BinaryTree;
import com.sun.source.tree.CompilationUnitTree;
import com.sun.source.tree.ExpressionStatementTree;
import com.sun.source.tree.LiteralTree;
import com.sun.source.tree.Tree;
import com.sun.source.tree.UnaryTree;
import com.sun.source.util.JavacTask;
import com.sun.source.util.SourcePositions;
import com.sun.source.util.TreeScanner;
import com.sun.source.util.Trees;
import java.io.ByteArrayOutputStream;
import java.io.IOException;
import java.io.OutputStream;
import java.io.PrintStream;
import java.io.Writer;
import java.lang.reflect.Method;
import java.net.URI;
import java.nio.file.Files;
import java.nio.file.Path;
import java.util.ArrayList;
import java.util.HashMap;
import java.util.List;
import java.util.Map;
import javax.tools.FileObject;
import javax.tools.ForwardingJavaFileManager;
import javax.tools.JavaCompiler;
import javax.tools.JavaFileManager;
import javax.tools.JavaFileObject;
import javax.tools.SimpleJavaFileObject;
import javax.tools.ToolProvider;

/**
 * Run by hand: breaks the class in one place at a time (a number by one, a comparison, a sign, a statement that is
 * left out), and tells which of the broken ones EdgesTest takes for good.
 */
public final class Mutants extends TreeScanner<Void, Void> {
    private static final Path FILE = Path.of("src/main/java/LockedCarts.java");
    private static final Path TESTS = Path.of("build/own");
    private static final long PATIENCE = 10_000;
    private static final Map<String, String> OTHERS = Map.ofEntries(
        Map.entry("<", "<="), Map.entry("<=", "<"), Map.entry(">", ">="), Map.entry(">=", ">"),
        Map.entry("==", "!="), Map.entry("!=", "=="), Map.entry("&&", "||"), Map.entry("||", "&&"),
        Map.entry("+", "-"), Map.entry("-", "+"), Map.entry("*", "+"), Map.entry("/", "%"), Map.entry("%", "/"));

    private final JavaCompiler compiler = ToolProvider.getSystemJavaCompiler();
    private final String source;
    private final CompilationUnitTree unit;
    private final SourcePositions positions;
    /** Each as where it begins and ends, and what stands there instead. */
    private final List<Object[]> mutants = new ArrayList<>();

    private Mutants() throws IOException {
        source = Files.readString(FILE);
        JavacTask task = (JavacTask) compiler.getTask(null, null, null, null, null, List.of(new Source(source)));
        unit = task.parse().iterator().next();
        positions = Trees.instance(task).getSourcePositions();
        scan(unit, null);
    }

    public static void main(String[] args) throws Exception {
        new Mutants().run(System.out);
        System.exit(0);
    }

    private void run(PrintStream out) throws Exception {
        int alive = 0;
        int made = 0;
        System.setOut(new PrintStream(OutputStream.nullOutputStream()));
        for (Object[] mutant : mutants) {
            int from = (int) mutant[0];
            String text = source.substring(0, from) + mutant[2] + source.substring((int) mutant[1]);
            Map<String, byte[]> classes = compile(text);
            if (classes.isEmpty()) {
                continue;
            }
            made++;
            if (!isFound(classes)) {
                alive++;
                long line = unit.getLineMap().getLineNumber(from);
                out.println(line + ": '" + source.substring(from, (int) mutant[1]) + "' as '" + mutant[2] + "' in "
                    + source.split("\n")[(int) line - 1].strip());
            }
        }
        out.println(made + " mutants, " + alive + " taken for good");
    }

    private int begin(Tree tree) {
        return (int) positions.getStartPosition(unit, tree);
    }

    private int end(Tree tree) {
        return (int) positions.getEndPosition(unit, tree);
    }

    @Override
    public Void visitLiteral(LiteralTree tree, Void nothing) {
        if (tree.getValue() instanceof Integer) {
            int number = (Integer) tree.getValue();
            mutants.add(new Object[] {begin(tree), end(tree), String.valueOf(number + 1)});
            mutants.add(new Object[] {begin(tree), end(tree), "(" + (number - 1) + ")"});
        } else if (tree.getValue() instanceof Boolean) {
            mutants.add(new Object[] {begin(tree), end(tree), String.valueOf(!(Boolean) tree.getValue())});
        }
        return super.visitLiteral(tree, nothing);
    }

    @Override
    public Void visitBinary(BinaryTree tree, Void nothing) {
        int from = end(tree.getLeftOperand());
        int to = begin(tree.getRightOperand());
        String sign = source.substring(from, to).replaceAll("[\\s(]", "").replace(")", "");
        if (OTHERS.containsKey(sign)) {
            int at = source.indexOf(sign, from);
            mutants.add(new Object[] {at, at + sign.length(), OTHERS.get(sign)});
        }
        return super.visitBinary(tree, nothing);
    }

    @Override
    public Void visitUnary(UnaryTree tree, Void nothing) {
        if (tree.getKind() == Tree.Kind.LOGICAL_COMPLEMENT) {
            mutants.add(new Object[] {begin(tree), begin(tree) + 1, ""});
        }
        return super.visitUnary(tree, nothing);
    }

    @Override
    public Void visitExpressionStatement(ExpressionStatementTree tree, Void nothing) {
        mutants.add(new Object[] {begin(tree), end(tree), ";"});
        return super.visitExpressionStatement(tree, nothing);
    }

    private static final class Source extends SimpleJavaFileObject {
        private final String text;

        Source(String text) {
            super(URI.create("string:///LockedCarts.java"), Kind.SOURCE);
            this.text = text;
        }

        @Override
        public CharSequence getCharContent(boolean ignore) {
            return text;
        }
    }

    /** The classes by their names; none if the text is no Java. */
    private Map<String, byte[]> compile(String text) throws IOException {
        Map<String, ByteArrayOutputStream> made = new HashMap<>();
        JavaFileManager files = new ForwardingJavaFileManager<>(compiler.getStandardFileManager(null, null, null)) {
            @Override
            public JavaFileObject getJavaFileForOutput(Location place, String name, JavaFileObject.Kind kind,
                    FileObject sibling) {
                return new SimpleJavaFileObject(URI.create("mem:///" + name), kind) {
                    @Override
                    public OutputStream openOutputStream() {
                        made.put(name, new ByteArrayOutputStream());
                        return made.get(name);
                    }
                };
            }
        };
        List<Source> sources = List.of(new Source(text));
        boolean good = compiler.getTask(Writer.nullWriter(), files, null, null, null, sources).call();
        Map<String, byte[]> classes = new HashMap<>();
        if (good) {
            made.forEach((name, bytes) -> classes.put(name, bytes.toByteArray()));
        }
        return classes;
    }

    /** The class as it is broken, and the tests, loaded anew. */
    private static final class Loader extends ClassLoader {
        private final Map<String, byte[]> classes;

        Loader(Map<String, byte[]> classes) {
            super(ClassLoader.getPlatformClassLoader());
            this.classes = classes;
        }

        @Override
        protected Class<?> findClass(String name) throws ClassNotFoundException {
            try {
                byte[] bytes = classes.containsKey(name) ? classes.get(name)
                    : Files.readAllBytes(TESTS.resolve(name + ".class"));
                return defineClass(name, bytes, 0, bytes.length);
            } catch (IOException e) {
                throw new ClassNotFoundException(name);
            }
        }
    }

    /** Whether a test fails, throws or does not end. */
    private static boolean isFound(Map<String, byte[]> classes) throws Exception {
        boolean[] good = {false};
        Loader loader = new Loader(classes);
        Thread thread = new Thread(() -> {
            try {
                Method all = loader.loadClass("EdgesTest").getDeclaredMethod("all");
                all.setAccessible(true);
                all.invoke(null);
                Method wrong = loader.loadClass("Check").getDeclaredMethod("wrongOnes");
                wrong.setAccessible(true);
                good[0] = (int) wrong.invoke(null) == 0;
            } catch (ReflectiveOperationException e) {
                good[0] = false;
            }
        });
        thread.setDaemon(true);
        thread.start();
        thread.join(PATIENCE);
        return !good[0];
    }
}
