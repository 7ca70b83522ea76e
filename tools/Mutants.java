import java.io.File;
import java.io.IOException;
import java.nio.file.Files;
import java.nio.file.Path;
import java.util.ArrayList;
import java.util.Arrays;
import java.util.Collection;
import java.util.LinkedHashSet;
import java.util.List;
import java.util.Set;
import java.util.concurrent.ConcurrentLinkedQueue;
import java.util.concurrent.TimeUnit;
import java.util.regex.Matcher;
import java.util.regex.Pattern;
import javax.tools.ToolProvider;

/**
 * Breaks the program in one spot at a time and tells the breaks that none of the named tests notices.
 * java tools/Mutants.java TEST.. , from the project's own folder; it takes some minutes. Ahead of the tests there may be
 * lines, as 100-200: then these alone are broken.
 */
public final class Mutants {
    private static final Path SOURCE = Path.of("src", "main", "java", "TallTales.java");
    private static final Path TESTS = Path.of("src", "test", "java");
    private static final Path WORK = Path.of("build", "mutants");
    private static final int MOST_SECONDS = 30;
    private static final String[][] SWAPS = {
        {" < ", " <= "}, {" <= ", " < "}, {" > ", " >= "}, {" >= ", " > "}, {" == ", " != "}, {" != ", " == "},
        {" && ", " || "}, {" || ", " && "}, {" + ", " - "}, {" - ", " + "}, {" * ", " + "}, {" % ", " / "}, {"++", "--"},
        {"--", "++"}, {" += ", " -= "}, {" -= ", " += "}, {"|= ", "= "}, {"true", "false"}, {"false", "true"},
        {"continue;", "break;"}, {"(!", "("}, {" !", " "}, {"Math.max(", "Math.min("}, {"(byte) ", ""}, {"(short) ", ""}};

    /** Names of which one may stand where another one is due. */
    private static final String[][] ALIKE = {
        {"UNKNOWN", "OUTSIDE", "STATE", "FULL", "NONE"}, {"NULL", "CAST", "INDEX", "SIZE"}, {"PLAIN", "GROWN", "TRUE"},
        {"BYTES", "SHORTS", "INTS"}, {"kinds", "owners", "heights", "told", "last"}, {"nightTale", "nightPlace", "nightTall"},
        {"tellAsTale", "tellAsGrown", "tellAsTrue"}, {"guests", "tales", "nights", "memory"}};

    /** One line becomes another one; where it is exchanged with the next one, that is gone. */
    private record Mutant(int line, String was, String is, boolean isNextGone) {
        Mutant(int line, String was, String is) {
            this(line, was, is, false);
        }
    }

    private Mutants() {
    }

    public static void main(String[] args) throws Exception {
        Files.createDirectories(WORK);
        String[] lines = Files.readString(SOURCE).split("\n");
        compileTests();
        ConcurrentLinkedQueue<Mutant> left = new ConcurrentLinkedQueue<>(all(lines));
        boolean isInPart = args[0].matches("\\d+-\\d+");
        String[] part = isInPart ? args[0].split("-") : new String[] {"1", String.valueOf(lines.length)};
        left.removeIf(m -> m.line + 1 < Integer.parseInt(part[0]) || m.line + 1 > Integer.parseInt(part[1]));
        String[] tests = isInPart ? Arrays.copyOfRange(args, 1, args.length) : args;
        System.out.println(left.size() + " breaks");
        List<Thread> workers = new ArrayList<>();
        for (int n = 0; n < Runtime.getRuntime().availableProcessors(); n++) {
            Path own = WORK.resolve("worker" + n);
            Thread worker = new Thread(() -> work(left, lines, own, tests));
            worker.start();
            workers.add(worker);
        }
        for (Thread worker : workers) worker.join();
    }

    private static void compileTests() throws IOException {
        List<String> args = new ArrayList<>(List.of("-d", WORK.resolve("tests").toString(), SOURCE.toString()));
        try (var files = Files.list(TESTS)) {
            files.forEach(file -> args.add(file.toString()));
        }
        if (ToolProvider.getSystemJavaCompiler().run(null, null, null, args.toArray(new String[0])) != 0) System.exit(1);
        try (var files = Files.list(WORK.resolve("tests"))) {
            for (Path file : files.toList()) {
                if (file.getFileName().toString().matches("TallTales(\\$.*)?\\.class")) Files.delete(file);
            }
        }
    }

    private static List<Mutant> all(String[] lines) {
        List<Mutant> all = new ArrayList<>();
        Set<String> counters = new LinkedHashSet<>();
        for (int n = 0; n < lines.length; n++) {
            String code = lines[n];
            String bare = code.trim();
            if (bare.isEmpty() || bare.startsWith("*") || bare.startsWith("/") || bare.startsWith("import")) continue;
            if (bare.endsWith(") {") && !bare.matches("(if|for|switch|while)\\b.*")) counters.clear();
            addAlike(all, n, code, counters);
            Matcher made = Pattern.compile("\\bint (\\w+)\\b(?!\\()").matcher(code);
            while (made.find()) counters.add(made.group(1));
            boolean isConstant = bare.contains("static final");
            for (String[] alike : ALIKE) if (!isConstant) addAlike(all, n, code, List.of(alike));
            for (String[] swap : SWAPS) {
                for (int at = code.indexOf(swap[0]); at >= 0; at = code.indexOf(swap[0], at + 1)) {
                    all.add(new Mutant(n, code, code.substring(0, at) + swap[1] + code.substring(at + swap[0].length())));
                }
            }
            Matcher numbers = Pattern.compile("(?<![\\w'.])\\d+(?![\\w'.])").matcher(code);
            while (numbers.find()) {
                for (int by = -1; by <= 1; by += 2) {
                    String number = String.valueOf(Integer.parseInt(numbers.group()) + by);
                    all.add(new Mutant(n, code, code.substring(0, numbers.start()) + number + code.substring(numbers.end())));
                }
            }
            boolean isStep = bare.matches("[\\w.]+(\\[.*\\])?( = .*|(\\+\\+|--)|\\(.*\\));");
            if (isStep || isRefusal(bare)) all.add(new Mutant(n, code, ""));
            if (!isRefusal(bare) || !isRefusal(lines[n + 1].trim())) continue;
            all.add(new Mutant(n, code, lines[n + 1] + " " + bare, true));
        }
        return all;
    }

    /** Each name that stands in the line becomes each other one of those alike. */
    private static void addAlike(List<Mutant> all, int n, String code, Collection<String> alike) {
        for (String name : alike) {
            Matcher spots = Pattern.compile("\\b" + name + "\\b").matcher(code);
            while (spots.find()) {
                for (String other : alike) {
                    if (other.equals(name)) continue;
                    all.add(new Mutant(n, code, code.substring(0, spots.start()) + other + code.substring(spots.end())));
                }
            }
        }
    }

    private static boolean isRefusal(String bare) {
        return bare.matches("if \\(.*\\) return .*;");
    }

    private static void work(ConcurrentLinkedQueue<Mutant> left, String[] lines, Path own, String[] tests) {
        for (Mutant mutant = left.poll(); mutant != null; mutant = left.poll()) {
            try {
                if (isUnnoticed(mutant, lines.clone(), own, tests)) {
                    System.out.println(mutant.line + 1 + ": " + mutant.was.trim() + "  ->  " + mutant.is.trim());
                }
            } catch (IOException | InterruptedException e) {
                System.out.println(e);
            }
        }
    }

    private static boolean isUnnoticed(Mutant mutant, String[] lines, Path own, String[] tests)
        throws IOException, InterruptedException {
        Files.createDirectories(own);
        Path source = own.resolve("TallTales.java");
        lines[mutant.line] = mutant.is;
        if (mutant.isNextGone) lines[mutant.line + 1] = "";
        Files.writeString(source, String.join("\n", lines));
        File told = own.resolve("told").toFile();
        if (!runs(told, "javac", "-nowarn", "-d", own.toString(), source.toString())) return false;
        String classes = own + File.pathSeparator + WORK.resolve("tests");
        for (String test : tests) {
            if (!runs(told, "java", "-XX:TieredStopAtLevel=1", "-XX:+UseSerialGC", "-cp", classes, test)) return false;
        }
        return true;
    }

    private static boolean runs(File told, String... command) throws IOException, InterruptedException {
        Process process = new ProcessBuilder(command).redirectErrorStream(true).redirectOutput(told).start();
        if (process.waitFor(MOST_SECONDS, TimeUnit.SECONDS)) return process.exitValue() == 0;
        process.destroyForcibly();
        process.waitFor();
        return false;
    }
}
