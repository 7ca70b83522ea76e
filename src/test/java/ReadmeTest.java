import java.io.IOException;
import java.lang.reflect.Method;
import java.lang.reflect.Modifier;
import java.nio.file.Files;
import java.nio.file.Path;
import java.util.regex.Matcher;
import java.util.regex.Pattern;
import java.util.stream.Stream;
import javax.tools.JavaCompiler;
import javax.tools.ToolProvider;

/**
 * README.md holds: its examples answer what stands beside them, its table has every call with its numbers, each number of
 * refusals and faults is the right one, and every test is named.
 */
public final class ReadmeTest {
    public static void main(String[] args) throws Exception {
        String page = Files.readString(Path.of("README.md"));
        examples(page);
        calls(page);
        numbers(page);
        tests(page);
        Check.end("ReadmeTest");
    }

    /** All examples are one run: "call; // answer" or "call; // answer: more words". */
    private static void examples(String page) throws Exception {
        StringBuilder body = new StringBuilder();
        int asked = 0;
        Matcher blocks = Pattern.compile("(?s)```java\n(.*?)```").matcher(page);
        while (blocks.find()) {
            for (String line : blocks.group(1).split("\n")) {
                Matcher call = Pattern.compile("(t\\..*); // ([-\\w.]+)(:.*)?").matcher(line);
                if (call.matches()) {
                    asked++;
                    body.append("Check.due(\"").append(call.group(1).replace("\"", "\\\"")).append("\", ");
                    body.append(call.group(1)).append(", ").append(call.group(2)).append(");\n");
                } else {
                    Check.holds("a line without an answer beside it: " + line, line.matches("(TallTales t|String text|for) .*"));
                    body.append(line).append('\n');
                }
            }
        }
        Check.holds("the page has examples: " + asked, asked > 20);
        run("public final class Examples { public static void run() {\n" + body + "} }\n");
    }

    /** Beside the other classes: there the examples may use Check as any test does. */
    private static void run(String source) throws Exception {
        Path out = Path.of(Check.class.getProtectionDomain().getCodeSource().getLocation().toURI());
        Path file = out.resolve("Examples.java");
        Files.writeString(file, source);
        JavaCompiler compiler = ToolProvider.getSystemJavaCompiler();
        int end = compiler.run(null, null, null, "-cp", out.toString(), "-d", out.toString(), file.toString());
        Check.due("the examples compile", end, 0);
        if (end == 0) Class.forName("Examples").getMethod("run").invoke(null);
    }

    /** As the program's own source names the numbers of each call. */
    private static void calls(String page) throws IOException {
        String source = Files.readString(Path.of("src", "main", "java", "TallTales.java"));
        Matcher heads = Pattern.compile("    public (?:int|long) (\\w+)\\((.*)\\) \\{").matcher(source);
        int rows = 0;
        while (heads.find()) {
            String row = "\n| `" + heads.group(1) + "(" + heads.group(2).replace("int ", "") + ")` |";
            Check.holds("the page has" + row, page.contains(row));
            rows++;
        }
        int calls = 0;
        for (Method method : TallTales.class.getDeclaredMethods()) {
            if (Modifier.isPublic(method.getModifiers())) calls++;
        }
        Check.due("calls that the source shows", rows, calls);
    }

    private static void numbers(String page) {
        TallTales t = new TallTales();
        Check.holds("UNKNOWN", page.contains("| `UNKNOWN` " + t.ofTale(0, 0) + " |"));
        Check.holds("OUTSIDE", page.contains("| `OUTSIDE` " + t.many(4) + " |"));
        Check.holds("STATE", page.contains("| `STATE` " + t.night() + " |"));
        Check.holds("FULL", page.contains("| `FULL` " + TallTales.FULL + " |"));
        Check.holds("NONE", page.contains("`NONE` (" + TallTales.NONE + ")"));
        fault(page, "NULL", t, t.put(0, 0, 0));
        Check.due("sheet", t.sheet(0, 0, 0), 1);
        fault(page, "CAST", t, t.inn(0, 1, 0, 0));
        fault(page, "INDEX", t, t.put(0, 0, 0));
        fault(page, "SIZE", t, t.sheet(0, 0, -1));
    }

    private static void fault(String page, String name, TallTales t, int answer) {
        Check.holds(name, page.contains("| " + answer + ": fault " + t.fault() + " " + name + " |"));
    }

    private static void tests(String page) throws IOException {
        try (Stream<Path> files = Files.list(Path.of("src", "test", "java"))) {
            for (Path file : files.sorted().toList()) {
                String name = file.getFileName().toString().replace(".java", "");
                if (name.endsWith("Test")) Check.holds("the page tells of " + name, page.contains("`" + name + "`"));
            }
        }
    }
}
