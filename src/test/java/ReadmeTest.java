import java.io.IOException;
import java.io.PrintWriter;
import java.lang.reflect.Method;
import java.lang.reflect.Modifier;
import java.net.URL;
import java.net.URLClassLoader;
import java.nio.file.Files;
import java.nio.file.Path;
import java.util.ArrayList;
import java.util.List;
import java.util.regex.Matcher;
import java.util.regex.Pattern;
import java.util.spi.ToolProvider;

/** README.md's example is compiled and gives the answers that stand behind its calls; its table names every call. */
public final class ReadmeTest {
    private static final Pattern BLOCK = Pattern.compile("```java\n(.*?)```", Pattern.DOTALL);
    private static final Pattern ANSWERED = Pattern.compile("(b\\.\\w+\\([^;]*\\)); +// (-?\\d+).*");
    private static int wrong = 0;

    private static void fail(String what) {
        wrong++;
        System.out.println("README.md: " + what);
    }

    /** The example as a class whose run() tells what each answered call gives. */
    private static String example(String helper, String calls, List<Integer> due) {
        StringBuilder b = new StringBuilder("public final class Example {\n").append(helper);
        b.append("public static int[] run() {\nint[] got = new int[99];\nint n = 0;\n");
        for (String line : calls.split("\n")) {
            Matcher answered = ANSWERED.matcher(line);
            if (answered.matches()) {
                due.add(Integer.parseInt(answered.group(2)));
                line = "got[n++] = " + answered.group(1) + ";";
            }
            b.append(line).append('\n');
        }
        return b.append("return got;\n}\n}\n").toString();
    }

    private static int[] run(String text) throws IOException, ReflectiveOperationException {
        Path out = Files.createTempDirectory("readme");
        Path file = out.resolve("Example.java");
        Files.writeString(file, text);
        PrintWriter err = new PrintWriter(System.out, true);
        int code = ToolProvider.findFirst("javac").orElseThrow().run(err, err, "-cp",
                System.getProperty("java.class.path"), "-d", out.toString(), file.toString());
        if (code != 0) {
            fail("the example can't be compiled");
            return null;
        }
        try (URLClassLoader loader = new URLClassLoader(new URL[] {out.toUri().toURL()})) {
            return (int[]) loader.loadClass("Example").getMethod("run").invoke(null);
        } finally {
            for (String name : new String[] {"Example.java", "Example.class"}) {
                Files.deleteIfExists(out.resolve(name));
            }
            Files.delete(out);
        }
    }

    private static void checkExample(String readme) throws IOException, ReflectiveOperationException {
        List<String> blocks = new ArrayList<>();
        Matcher block = BLOCK.matcher(readme);
        while (block.find()) {
            blocks.add(block.group(1));
        }
        if (blocks.size() != 2) {
            fail("it has " + blocks.size() + " blocks of Java, not a helper and an example");
            return;
        }
        List<Integer> due = new ArrayList<>();
        int[] got = run(example(blocks.get(0), blocks.get(1), due));
        if (due.isEmpty()) {
            fail("no answers stand behind the calls");
        }
        for (int i = 0; got != null && i < due.size(); i++) {
            if (got[i] != due.get(i)) {
                fail("answer " + (i + 1) + " of the example is " + got[i] + ", not " + due.get(i));
            }
        }
    }

    private static void checkTable(String readme) {
        for (Method method : BarPilot.class.getDeclaredMethods()) {
            boolean named = Pattern.compile("^\\|.*`" + method.getName() + "`.*\\|", Pattern.MULTILINE)
                    .matcher(readme).find();
            if (Modifier.isPublic(method.getModifiers()) && !named) {
                fail("the table does not name " + method.getName());
            }
        }
    }

    private static void checkTests(String readme) throws IOException {
        try (var files = Files.list(Path.of("src/test/java"))) {
            for (Path file : (Iterable<Path>) files::iterator) {
                String name = file.getFileName().toString();
                if (name.endsWith("Test.java") && !readme.contains("src/test/java/" + name)) {
                    fail("it does not name the test " + name);
                }
            }
        }
    }

    public static void main(String[] args) throws IOException, ReflectiveOperationException {
        String readme = Files.readString(Path.of("README.md"));
        checkExample(readme);
        checkTable(readme);
        checkTests(readme);
        System.out.println(wrong == 0 ? "README.md says what is so" : wrong + " faults in README.md");
        if (wrong != 0) {
            System.exit(1);
        }
    }
}
