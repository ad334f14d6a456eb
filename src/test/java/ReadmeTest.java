import java.io.IOException;
import java.net.URL;
import java.net.URLClassLoader;
import java.nio.file.Files;
import java.nio.file.Path;
import java.util.ArrayList;
import java.util.List;
import java.util.regex.Matcher;
import java.util.regex.Pattern;

/**
 * What README.md shows: its examples are compiled as they stand there, one after the other, and each call must answer
 * what is written behind it. The test runs in the project's folder.
 */
public final class ReadmeTest {

    private static final Path README = Path.of("README.md");
    private static final Pattern BLOCK = Pattern.compile("(?ms)^```java\n(.*?)^```$");

    /** A call at the beginning of a line, and behind it what it answers or throws. */
    private static final Pattern EXAMPLE = Pattern.compile(
            "(keeper\\.\\w+\\(.*\\)); +// (?:(NONE|true|false|-?\\d+)|throws (\\w+Exception)): \\S.*");

    public static void main(String[] args) throws Exception {
        String readme = Files.readString(README);
        examples(readme);
        textIsAsTold(readme);
        Checks.due("the value of NONE is told", readme.contains("`DesiredStateKeeper.NONE` (" + DesiredStateKeeper.NONE
                + ")"), true);
        filesThatAreNamed(readme);
        Checks.end("ReadmeTest");
    }

    private static void examples(String readme) throws Exception {
        StringBuilder body = new StringBuilder();
        int answers = 0;
        for (String line : exampleLines(readme)) {
            Matcher example = EXAMPLE.matcher(line);
            if (example.matches()) {
                answers++;
                body.append(checked(example)).append('\n');
            } else {
                Checks.due("the answer is told: " + line, line.startsWith("keeper."), false);
                body.append(line).append('\n');
            }
        }
        Checks.due("README.md has examples", answers > 0, true);
        Class<?> program = compiled("public final class ReadmeExamples { public static void run() {\n" + body + "} }");
        int before = Checks.made();
        program.getMethod("run").invoke(null);
        Checks.due("each example was asked", Checks.made() - before, answers);
    }

    private static List<String> exampleLines(String readme) {
        List<String> lines = new ArrayList<>();
        Matcher block = BLOCK.matcher(readme);
        while (block.find()) {
            lines.addAll(List.of(block.group(1).split("\n")));
        }
        return lines;
    }

    private static String checked(Matcher example) {
        String call = example.group(1);
        String answer = example.group(2);
        if (answer == null) {
            return "ReadmeTest.refuses(\"" + call + "\", " + example.group(3) + ".class, () -> " + call + ");";
        }
        String want = answer.equals("NONE") ? "DesiredStateKeeper.NONE" : answer;
        return "ReadmeTest.due(\"" + call + "\", " + call + ", " + want + ");";
    }

    /** Called by the examples, which another class loader loads: for them {@link Checks} is not visible. */
    public static void due(String call, Object got, Object want) {
        Checks.due(call, got, want);
    }

    /** Called by the examples. */
    public static void refuses(String call, Class<?> want, Runnable body) {
        Checks.refuses(call, want, body::run);
    }

    private static Class<?> compiled(String source) throws Exception {
        Path folder = Files.createTempDirectory("readme");
        try {
            Path file = folder.resolve("ReadmeExamples.java");
            Files.writeString(file, source);
            int code = new ProcessBuilder("javac", "-d", folder.toString(), "-cp",
                    System.getProperty("java.class.path"), file.toString()).inheritIO().start().waitFor();
            Checks.due("the examples compile", code, 0);
            try (URLClassLoader loader = new URLClassLoader(new URL[] {folder.toUri().toURL()},
                    ReadmeTest.class.getClassLoader())) {
                return loader.loadClass("ReadmeExamples");
            }
        } finally {
            deleteAll(folder);
        }
    }

    private static void deleteAll(Path folder) throws IOException {
        try (var files = Files.list(folder)) {
            for (Path file : files.toList()) {
                Files.delete(file);
            }
        }
        Files.delete(folder);
    }

    /** The comments beside the parts of the text say what is loaded from it. */
    private static void textIsAsTold(String readme) {
        Matcher text = Pattern.compile("(?s)String text = (.*?\";)").matcher(readme);
        Checks.due("README.md has a text", text.find(), true);
        StringBuilder joined = new StringBuilder();
        Matcher part = Pattern.compile("\"(\\w*)\"").matcher(text.group(1));
        while (part.find()) {
            joined.append(part.group(1));
        }
        DesiredStateKeeper k = Checks.keeper(joined.toString());
        int[] about = {2, 2, 1, 3, 5, 0, 0, 0};
        for (int what = 0; what < about.length; what++) {
            Checks.due("about(" + what + ") of the text", k.about(what), about[what]);
        }
        int[] rule = {0, 1, 1, 0, 1};
        for (int what = 0; what < rule.length; what++) {
            Checks.due("rule(0, " + what + ") of the text", k.rule(0, what), rule[what]);
        }
        for (int i = 0; i < 2; i++) {
            Checks.due("ring of node " + i, k.node(i, 0), i);
            Checks.due("quorum of component " + i, k.quorum(i), 1 - i);
            Checks.due("wished versions of node " + i, k.version(i, 0, true) * 10 + k.version(i, 1, true), 10);
            Checks.due("present versions of node " + i, k.node(i, 6), 0);
        }
    }

    private static void filesThatAreNamed(String readme) {
        Checks.due("README.md tells of .ci/run", readme.contains("\n    .ci/run\n"), true);
        Checks.due(".ci/run can be run", Files.isExecutable(Path.of(".ci/run")), true);
        Matcher name = Pattern.compile("`(src/[\\w./]+|\\w+\\.md|\\w+Test)`").matcher(readme);
        while (name.find()) {
            boolean test = name.group(1).endsWith("Test");
            Path path = Path.of(test ? "src/test/java/" + name.group(1) + ".java" : name.group(1));
            Checks.due("there is " + path, Files.exists(path), true);
        }
    }
}
