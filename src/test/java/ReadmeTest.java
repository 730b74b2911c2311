import java.lang.reflect.Method;
import java.lang.reflect.Modifier;
import java.net.URL;
import java.net.URLClassLoader;
import java.nio.charset.StandardCharsets;
import java.nio.file.Files;
import java.nio.file.Path;
import java.util.ArrayList;
import java.util.List;
import java.util.regex.Matcher;
import java.util.regex.Pattern;
import javax.tools.JavaCompiler;
import javax.tools.ToolProvider;

/** README.md's code is compiled and run as it stands there: each call must have the answer behind it. */
public final class ReadmeTest {
    private static final String NAME = "ReadmeRuns";
    private static final String MADE = "WallPicks x = new WallPicks();";
    private static final Pattern BLOCK = Pattern.compile("```java\n(.*?)```", Pattern.DOTALL);
    private static final Pattern ASKED = Pattern.compile("(x\\.\\w+\\([^\"]*\\));\\s+// (-?\\d+)\\b.*");
    private static final Pattern FED = Pattern.compile("feed\\(x, \".*\"\\);");

    private static int asked;
    private static int made;
    private static int passed;
    private static int failed;

    private ReadmeTest() {
    }

    public static void main(String[] args) throws Exception {
        String text = Files.readString(Path.of("README.md"), StandardCharsets.UTF_8);
        runs(text);
        namesAll(text);
        System.out.println("ReadmeTest: " + passed + " passed, " + failed + " failed");
        if (failed > 0) {
            System.exit(1);
        }
    }

    /** The code that is made of README.md's calls it. */
    public static void due(String call, int got, int want) {
        made++;
        holds(call + " answered " + got + ", README.md says " + want, got == want);
    }

    private static void holds(String what, boolean held) {
        if (held) {
            passed++;
        } else {
            failed++;
            System.out.println("doesn't hold: " + what);
        }
    }

    private static void runs(String text) throws Exception {
        StringBuilder helpers = new StringBuilder();
        StringBuilder calls = new StringBuilder();
        Matcher block = BLOCK.matcher(text);
        while (block.find()) {
            if (block.group(1).startsWith("static ")) {
                helpers.append(block.group(1));
            } else {
                addCalls(calls, block.group(1).split("\n"));
            }
        }
        run("public final class " + NAME + " {\n" + helpers + "public static void run() {\n" + calls + "}\n}\n");
        holds("README.md tells calls, and each of them was made", asked > 0 && made == asked);
    }

    private static void addCalls(StringBuilder calls, String[] lines) {
        for (String line : lines) {
            Matcher found = ASKED.matcher(line);
            if (found.matches()) {
                asked++;
                calls.append("ReadmeTest.due(\"").append(found.group(1)).append("\", ");
                calls.append(found.group(1)).append(", ").append(found.group(2)).append(");\n");
            } else {
                boolean known = line.isBlank() || line.equals(MADE) || FED.matcher(line).matches();
                holds("a call with its answer: " + line, known);
                calls.append(line).append('\n');
            }
        }
    }

    private static void run(String code) throws Exception {
        Path out = Files.createTempDirectory("readme");
        Path source = out.resolve(NAME + ".java");
        Files.writeString(source, code, StandardCharsets.UTF_8);
        JavaCompiler javac = ToolProvider.getSystemJavaCompiler();
        int exit = javac.run(null, null, null, "-d", out.toString(), "-cp",
            System.getProperty("java.class.path"), source.toString());
        holds("README.md's code is compiled", exit == 0);
        if (exit == 0) {
            try (URLClassLoader loader = new URLClassLoader(new URL[] {out.toUri().toURL()})) {
                loader.loadClass(NAME).getMethod("run").invoke(null);
            }
        }
        for (Path file : List.of(out.resolve(NAME + ".class"), source, out)) {
            Files.deleteIfExists(file);
        }
    }

    private static void namesAll(String text) throws Exception {
        for (Method method : WallPicks.class.getDeclaredMethods()) {
            if (Modifier.isPublic(method.getModifiers())) {
                holds("README.md names " + method.getName(), text.contains("`" + method.getName() + "`"));
            }
        }
        List<String> tests = new ArrayList<>();
        try (var files = Files.list(Path.of("src/test/java"))) {
            files.forEach(file -> tests.add(file.getFileName().toString().replace(".java", "")));
        }
        for (String test : tests) {
            holds("README.md names " + test, text.contains("`" + test + "`"));
        }
        holds("README.md says how to run the tests", text.contains("\n    bash .ci/run\n"));
        holds("that is there", Files.isExecutable(Path.of(".ci/run")));
    }
}
