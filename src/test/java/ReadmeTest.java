import java.io.IOException;
import java.lang.reflect.InvocationTargetException;
import java.net.URL;
import java.net.URLClassLoader;
import java.nio.charset.StandardCharsets;
import java.nio.file.Files;
import java.nio.file.Path;
import java.util.ArrayList;
import java.util.List;
import java.util.Set;
import java.util.TreeSet;
import java.util.regex.Matcher;
import java.util.regex.Pattern;
import javax.tools.ToolProvider;

/** The calls that README.md shows, in one run, answer as it says; what it names of the project is there. */
public final class ReadmeTest {
    private static final Pattern BLOCK = Pattern.compile("```java\n(.*?)```", Pattern.DOTALL);
    private static final Pattern SHOWN = Pattern.compile("(x\\.(\\w+)\\(.*\\)); +// (-?\\d+|[A-Z]+)\\b.*");
    // How a text comes to the tape is shown without answers.
    private static final Pattern UNTOLD = Pattern.compile(
        "|MemoByWeight x = new MemoByWeight\\(\\);|for \\(char letter : \"\\S+\".toCharArray\\(\\)\\) \\{|    x.feed\\(letter\\);|\\}");
    private static final Set<String> REFUSALS = Set.of("BAD", "NOT", "STATE", "FULL");

    private static final List<String> ANSWERED = new ArrayList<>();

    public static void main(String[] args) throws Exception {
        String readme = Files.readString(Path.of("README.md"), StandardCharsets.UTF_8);
        Set<String> calls = new TreeSet<>();
        String body = body(readme, calls);
        if (calls.size() < 20) {
            Script.wrong("README.md shows only these calls: " + calls);
        }
        run(body);
        for (String answered : ANSWERED) {
            Script.wrong(answered);
        }
        names(readme);
        Script.end();
    }

    /** What the shown calls use to tell their answers. */
    public static void due(String shown, int got, int want) {
        if (got != want) {
            ANSWERED.add("README.md: " + shown + ": answered " + got);
        }
    }

    private static String body(String readme, Set<String> calls) {
        StringBuilder body = new StringBuilder();
        Matcher block = BLOCK.matcher(readme);
        while (block.find()) {
            for (String line : block.group(1).split("\n")) {
                Matcher shown = SHOWN.matcher(line);
                if (shown.matches()) {
                    calls.add(shown.group(2));
                    String want = shown.group(3);
                    body.append("ReadmeTest.due(\"").append(shown.group(1)).append("\", ").append(shown.group(1)).append(", ")
                        .append(REFUSALS.contains(want) ? "MemoByWeight." + want : want).append(");\n");
                } else {
                    if (!UNTOLD.matcher(line).matches()) {
                        Script.wrong("README.md doesn't say what this answers: " + line);
                    }
                    body.append(line).append('\n');
                }
            }
        }
        return body.toString();
    }

    private static void run(String body) throws IOException, ReflectiveOperationException {
        Path made = Files.createTempDirectory("readme");
        Path file = made.resolve("Shown.java");
        Path classes = made.resolve("Shown.class");
        try {
            Files.writeString(file, "public final class Shown { public static void run() {\n" + body + "} }\n");
            int failed = ToolProvider.getSystemJavaCompiler().run(null, null, null, "-encoding", "UTF-8",
                "-cp", System.getProperty("java.class.path"), "-d", made.toString(), file.toString());
            if (failed != 0) {
                Script.wrong("README.md: what it shows doesn't compile");
                return;
            }
            try (URLClassLoader loader = new URLClassLoader(new URL[] {made.toUri().toURL()})) {
                loader.loadClass("Shown").getMethod("run").invoke(null);
            } catch (InvocationTargetException thrown) {
                Script.wrong("README.md: a call threw " + thrown.getCause());
            }
        } finally {
            Files.deleteIfExists(classes);
            Files.deleteIfExists(file);
            Files.deleteIfExists(made);
        }
    }

    /** Each test is told of, and none that isn't there. */
    private static void names(String readme) throws IOException {
        Set<String> there = new TreeSet<>();
        try (var files = Files.list(Path.of("src/test/java"))) {
            files.map(f -> f.getFileName().toString().replace(".java", "")).filter(n -> n.endsWith("Test")).forEach(there::add);
        }
        there.removeIf(name -> name.endsWith("BoundariesTest"));
        Set<String> told = new TreeSet<>();
        Matcher name = Pattern.compile("`(\\w+Test)`").matcher(readme);
        while (name.find()) {
            told.add(name.group(1));
        }
        if (!told.equals(there)) {
            Script.wrong("README.md tells of the tests " + told + ", there are " + there);
        }
        if (!readme.contains("`.ci/run`") || !Files.isExecutable(Path.of(".ci/run"))) {
            Script.wrong("README.md doesn't say how the tests are run");
        }
    }
}
