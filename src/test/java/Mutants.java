import java.io.IOException;
import java.nio.file.Files;
import java.nio.file.Path;
import java.util.ArrayList;
import java.util.Comparator;
import java.util.List;
import java.util.concurrent.Callable;
import java.util.concurrent.ExecutorService;
import java.util.concurrent.Executors;
import java.util.concurrent.Future;
import java.util.concurrent.TimeUnit;
import java.util.regex.Matcher;
import java.util.regex.Pattern;
import java.util.stream.Stream;
import javax.tools.ToolProvider;

/**
 * A tool, no test: breaks BarPilot.java in one place at a time and tells which breaks a test does not see.
 * From the project's root: java -cp CLASSES Mutants CLASSES [TEST], where CLASSES has all tests compiled.
 */
public final class Mutants {
    private static final Path SOURCE = Path.of("src/main/java/BarPilot.java");
    private static final String[][] SWAPS = {
        {" <= ", " < "}, {" < ", " <= "}, {" >= ", " > "}, {" > ", " >= "}, {" == ", " != "}, {" != ", " == "},
        {" && ", " || "}, {" || ", " && "}, {" + ", " - "}, {" - ", " + "}, {"Math.max", "Math.min"},
        {"Math.min", "Math.max"}, {"true", "false"}, {"false", "true"}, {" |= ", " = "}, {" &= ", " = "}, {" += ", " = "},
        {" -= ", " = "}, {"continue;", "break;"}, {"break;", ""}, {"++;", "--;"}, {"--;", "++;"}, {"(!", "("}, {" & ", " | "},
        {"NONE", "-3"}, {" % ", " / "}, {" / ", " % "}, {" * ", " + "}, {" >> ", " << "}, {" << ", " >> "}
    };

    private record Mutant(int line, String was, String is, String text) {
    }

    private static List<Mutant> all() throws IOException {
        List<String> lines = Files.readAllLines(SOURCE);
        List<Mutant> found = new ArrayList<>();
        for (int i = 0; i < lines.size(); i++) {
            String line = lines.get(i);
            String bare = line.trim();
            if (bare.isEmpty() || bare.startsWith("//") || bare.startsWith("/*") || bare.startsWith("import")) {
                continue;
            }
            for (String[] swap : SWAPS) {
                for (int at = line.indexOf(swap[0]); at >= 0; at = line.indexOf(swap[0], at + 1)) {
                    add(found, lines, i, line.substring(0, at) + swap[1] + line.substring(at + swap[0].length()));
                }
            }
            Matcher number = Pattern.compile("(?<![\\w.'])\\d+(?![\\w.'])").matcher(line);
            while (number.find()) {
                int value = (int) Long.parseLong(number.group());
                add(found, lines, i, line.substring(0, number.start()) + (value + 1) + line.substring(number.end()));
                add(found, lines, i, line.substring(0, number.start()) + (value - 1) + line.substring(number.end()));
            }
            if (bare.endsWith(");") && !bare.startsWith("return") && !bare.contains(" = ")) {
                add(found, lines, i, line.replace(bare, ";"));
            }
        }
        return found;
    }

    private static void add(List<Mutant> found, List<String> lines, int at, String line) {
        List<String> copy = new ArrayList<>(lines);
        copy.set(at, line);
        found.add(new Mutant(at + 1, lines.get(at).trim(), line.trim(), String.join("\n", copy)));
    }

    /** Whether the test saw it; one that does not compile counts as seen. */
    private static boolean seen(Mutant mutant, String classes, String test) throws IOException, InterruptedException {
        Path folder = Files.createTempDirectory("mutant");
        try {
            Path file = folder.resolve("BarPilot.java");
            Files.writeString(file, mutant.text);
            var nowhere = java.io.OutputStream.nullOutputStream();
            int answer = ToolProvider.getSystemJavaCompiler().run(null, nowhere, nowhere, "-nowarn", "-d", folder.toString(),
                    file.toString());
            if (answer != 0) {
                return true;
            }
            Process run = new ProcessBuilder("java", "-XX:TieredStopAtLevel=1", "-Xmx256m", "-cp", folder + ":" + classes, test)
                    .redirectErrorStream(true).redirectOutput(ProcessBuilder.Redirect.DISCARD).start();
            if (!run.waitFor(60, TimeUnit.SECONDS)) {
                run.destroyForcibly();
                return true;
            }
            return run.exitValue() != 0;
        } finally {
            try (Stream<Path> files = Files.walk(folder)) {
                files.sorted(Comparator.reverseOrder()).forEach(f -> f.toFile().delete());
            }
        }
    }

    public static void main(String[] args) throws Exception {
        String classes = args[0];
        String test = args.length > 1 ? args[1] : "SentencesTest";
        List<Mutant> mutants = all();
        ExecutorService pool = Executors.newFixedThreadPool(Runtime.getRuntime().availableProcessors());
        List<Future<Boolean>> answers = new ArrayList<>();
        for (Mutant mutant : mutants) {
            Callable<Boolean> job = () -> seen(mutant, classes, test);
            answers.add(pool.submit(job));
        }
        int unseen = 0;
        for (int i = 0; i < mutants.size(); i++) {
            if (!answers.get(i).get()) {
                unseen++;
                System.out.println(mutants.get(i).line + ": " + mutants.get(i).was + "\n    -> " + mutants.get(i).is);
            }
        }
        pool.shutdown();
        System.out.println(mutants.size() + " mutants, " + unseen + " unseen by " + test);
    }
}
