import java.io.File;
import java.net.URL;
import java.net.URLClassLoader;
import java.nio.file.Files;
import java.nio.file.Path;
import java.util.ArrayList;
import java.util.List;
import java.util.function.Supplier;
import java.util.regex.Matcher;
import java.util.regex.Pattern;
import javax.tools.ToolProvider;

/** That the examples of README.md compile and answer what stands behind them, and that it names every test. */
public final class ReadmeTest {
    private static final Path README = Path.of("README.md");
    private static final Path TESTS = Path.of("src/test/java");
    private static final Path OUT = Path.of("build/readme");
    private static final String CLASS = "ReadmeExamples";
    private static final Pattern EXAMPLE = Pattern.compile("```java\n(.*?)```", Pattern.DOTALL);
    private static final Pattern ANSWER = Pattern.compile("(race\\.\\w+\\([^)]*\\)); *// ([0-9]+|[A-Z_]+): .*");
    private static final Pattern NAMED = Pattern.compile("`(\\w+(?:Test|Edges))`");

    private final List<String> calls = new ArrayList<>();
    private final List<Integer> due = new ArrayList<>();

    public static void main(String[] args) throws Exception {
        String readme = Files.readString(README);
        testsAreNamed(readme);
        new ReadmeTest().examplesAnswer(readme);
        Check.finish();
    }

    private static void testsAreNamed(String readme) {
        String[] files = TESTS.toFile().list((folder, name) -> name.matches(".*(Test|Edges)\\.java"));
        for (String file : files) {
            String name = "`" + file.replace(".java", "") + "`";
            Check.due("README.md names " + name, readme.contains(name) ? 1 : 0, 1);
        }
        Matcher named = NAMED.matcher(readme);
        while (named.find()) {
            File file = TESTS.resolve(named.group(1) + ".java").toFile();
            Check.due(file + ", that README.md names, is there", file.isFile() ? 1 : 0, 1);
        }
    }

    private void examplesAnswer(String readme) throws Exception {
        String body = readExamples(readme);
        Check.due(calls.size() + " answers in the examples are enough", calls.size() >= 20 ? 1 : 0, 1);
        List<Integer> answers = run(body);
        Check.due("how many answers there are", answers.size(), due.size());
        for (int i = 0; i < Math.min(answers.size(), due.size()); i++) {
            Check.due("README.md: " + calls.get(i), answers.get(i), due.get(i));
        }
    }

    /** The examples are one program: a later one goes on with the race of the one above it. */
    private String readExamples(String readme) throws Exception {
        StringBuilder body = new StringBuilder();
        Matcher example = EXAMPLE.matcher(readme);
        while (example.find()) {
            for (String line : example.group(1).split("\n")) {
                Matcher answer = ANSWER.matcher(line.strip());
                if (answer.matches()) {
                    calls.add(answer.group(1));
                    due.add(number(answer.group(2)));
                    body.append("answers.add(").append(answer.group(1)).append(");\n");
                } else {
                    Check.due("an answer that can be read in '" + line + "'", line.contains("//") ? 0 : 1, 1);
                    body.append(line).append('\n');
                }
            }
        }
        return body.toString();
    }

    private static int number(String answer) throws Exception {
        boolean plain = Character.isDigit(answer.charAt(0));
        return plain ? Integer.parseInt(answer) : LockedCarts.class.getField(answer).getInt(null);
    }

    private static List<Integer> run(String body) throws Exception {
        Files.createDirectories(OUT);
        Path file = OUT.resolve(CLASS + ".java");
        Files.writeString(file, "import java.util.*;\n"
            + "public final class " + CLASS + " implements java.util.function.Supplier<List<Integer>> {\n"
            + "public List<Integer> get() {\nList<Integer> answers = new ArrayList<>();\n"
            + body + "return answers;\n}\n}\n");
        int code = ToolProvider.getSystemJavaCompiler().run(null, null, null,
            "-cp", System.getProperty("java.class.path"), "-d", OUT.toString(), file.toString());
        Check.due("javac of the examples", code, 0);
        List<Integer> answers = new ArrayList<>();
        if (code == 0) {
            try (URLClassLoader loader = new URLClassLoader(new URL[] {OUT.toUri().toURL()})) {
                Object examples = loader.loadClass(CLASS).getConstructor().newInstance();
                for (Object answer : (List<?>) ((Supplier<?>) examples).get()) {
                    answers.add((Integer) answer);
                }
            }
        }
        return answers;
    }
}
