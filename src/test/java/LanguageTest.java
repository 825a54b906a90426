import java.io.IOException;
import java.io.PrintWriter;
import java.io.StringWriter;
import java.lang.reflect.Constructor;
import java.lang.reflect.Field;
import java.lang.reflect.Method;
import java.lang.reflect.Modifier;
import java.nio.file.Files;
import java.nio.file.Path;
import java.util.ArrayList;
import java.util.Arrays;
import java.util.List;
import java.util.Map;
import java.util.Set;
import java.util.TreeMap;
import java.util.TreeSet;
import java.util.regex.Matcher;
import java.util.regex.Pattern;
import java.util.spi.ToolProvider;

/** Those rules of LANGUAGE.md that can be told from the compiled class and from the text, run from the project's root. */
public final class LanguageTest {
    private static final Path SOURCE = Path.of("src/main/java/BarPilot.java");
    private static final List<String> FACE = List.of("feed 5", "end 1", "bar 0", "rule 0", "force 1", "joke 2", "ship 2",
            "tide 0", "say 2", "trade 2", "coin 2", "dull 1", "undo 0", "ahead 3", "over 2", "alike 2", "fresh 0",
            "least 0", "row 3", "forget 2", "barter 2", "school 2", "old 4", "game 4", "parts 2", "order 1", "note 3",
            "ruled 1", "look 2", "seed 1", "parrots 4", "count 1", "image 1", "back 1");
    private static final Set<String> LIBRARY = Set.of("Integer.bitCount", "Math.max", "Math.min", "Arrays.copyOf",
            "Arrays.fill", "System.arraycopy");
    private static int wrong = 0;

    private static void fail(String rule) {
        wrong++;
        System.out.println(rule);
    }

    private static void checkFace() {
        int m = BarPilot.class.getModifiers();
        if (!Modifier.isPublic(m) || !Modifier.isFinal(m)) {
            fail("rule 1: the class is not public and final");
        }
        Set<String> found = new TreeSet<>();
        Set<String> names = new TreeSet<>();
        for (Method method : BarPilot.class.getDeclaredMethods()) {
            if (Modifier.isPublic(method.getModifiers())) {
                found.add(method.getName() + " " + method.getParameterCount());
                names.add(method.getName());
                boolean ints = method.getReturnType() == int.class;
                for (Class<?> type : method.getParameterTypes()) {
                    ints &= type == int.class;
                }
                if (!ints) {
                    fail("face: " + method);
                }
            } else if (!Modifier.isPrivate(method.getModifiers())) {
                fail("rule 1: " + method);
            }
        }
        if (!found.equals(new TreeSet<>(FACE))) {
            fail("face: " + found);
        }
        for (Method method : BarPilot.class.getDeclaredMethods()) {
            if (!Modifier.isPublic(method.getModifiers()) && names.contains(method.getName())) {
                fail("rule 1, a private method bears a public one's name: " + method);
            }
        }
        for (Field field : BarPilot.class.getDeclaredFields()) {
            if (!Modifier.isPrivate(field.getModifiers()) && !field.getName().equals("NONE")) {
                fail("rule 1: " + field);
            }
        }
        Constructor<?>[] all = BarPilot.class.getDeclaredConstructors();
        if (all.length != 1 || all[0].getParameterCount() != 0 || !Modifier.isPublic(all[0].getModifiers())) {
            fail("face: the constructor");
        }
    }

    private static void checkClasses() {
        List<Class<?>> classes = new ArrayList<>(Arrays.asList(BarPilot.class.getDeclaredClasses()));
        for (Class<?> inside : classes) {
            int m = inside.getModifiers();
            if (!Modifier.isStatic(m) || Modifier.isPublic(m) || Modifier.isProtected(m)) {
                fail("rule 1 or 2: " + inside);
            }
        }
        classes.add(BarPilot.class);
        if (classes.size() > 12) {
            fail("rule 11: " + classes.size() + " classes");
        }
        for (Class<?> one : classes) {
            int fields = 0;
            for (Field field : one.getDeclaredFields()) {
                if (!Modifier.isStatic(field.getModifiers())) {
                    fields++;
                } else if (!Modifier.isFinal(field.getModifiers())) {
                    fail("rule 5: " + field);
                }
            }
            if (fields > 20) {
                fail("rule 11: " + fields + " fields in " + one);
            }
            for (Method method : one.getDeclaredMethods()) {
                if (method.getParameterCount() > 7) {
                    fail("rule 11: " + method);
                }
            }
        }
    }

    private static void checkText() throws IOException {
        String text = Files.readString(SOURCE);
        String bare = text.replaceAll("(?s)/\\*.*?\\*/", "").replaceAll("//[^\n]*", "");
        String[] banned = {"\\bthrow\\b", "\\bthrows\\b", "\\btry\\b", "\\bcatch\\b", "\\bsynchronized\\b",
            "\\bassert\\b", "->", "::", "\\bpackage\\b", "Exact\\b", "\\bSystem\\.(?!arraycopy)", "\\bRandom\\b",
            "\\bThread\\b", "\\bObject\\b", "\\bequals\\b", "\\bhashCode\\b", "\\btoString\\b", "@Suppress", "\\bNaN\\b"};
        for (String word : banned) {
            if (Pattern.compile(word).matcher(bare).find()) {
                fail("banned: " + word);
            }
        }
        Matcher imports = Pattern.compile("import ([\\w.]+);").matcher(bare);
        while (imports.find()) {
            if (!imports.group(1).equals("java.util.Arrays")) {
                fail("rule 4: import " + imports.group(1));
            }
        }
        Matcher library = Pattern.compile("\\b(Integer|Long|Math|Arrays|System|String|StringBuilder)\\.\\w+").matcher(bare);
        while (library.find()) {
            if (!LIBRARY.contains(library.group())) {
                fail("rule 4: " + library.group());
            }
        }
        for (char sign : text.toCharArray()) {
            if (sign > 126) {
                fail("rule 4: a sign beyond 127");
                break;
            }
        }
        checkLengths(text.split("\n"));
    }

    /** A method begins at a line that opens a brace behind ")" and ends at the first } that stands as far in. */
    private static void checkLengths(String[] lines) {
        Pattern head = Pattern.compile("^( {4}| {8})(?! )(?!if|for|while|switch|else).*\\) \\{$");
        for (int i = 0; i < lines.length; i++) {
            Matcher m = head.matcher(lines[i]);
            if (m.find()) {
                int j = i;
                while (j < lines.length && !lines[j].equals(m.group(1) + "}")) {
                    j++;
                }
                if (j - i + 1 > 60) {
                    fail("rule 11: " + (j - i + 1) + " lines: " + lines[i].trim());
                }
            }
            if (lines[i].length() > 120) {
                fail("a line of " + lines[i].length() + " signs: " + (i + 1));
            }
        }
    }

    /** Which methods call which, by the compiled classes; a method goes by its class and name. */
    private static Map<String, Set<String>> callGraph() {
        Map<String, Set<String>> calls = new TreeMap<>();
        List<Class<?>> classes = new ArrayList<>(Arrays.asList(BarPilot.class.getDeclaredClasses()));
        classes.add(BarPilot.class);
        Pattern head = Pattern.compile("^  [^ ].*?([\\w$.]+)\\(.*\\);$");
        Pattern call = Pattern.compile("// (?:Interface)?Method (?:(BarPilot[\\w$]*)\\.)?\"?([\\w<>]+)\"?:");
        for (Class<?> one : classes) {
            StringWriter text = new StringWriter();
            PrintWriter out = new PrintWriter(text);
            ToolProvider.findFirst("javap").orElseThrow().run(out, out, "-p", "-c", "-cp",
                    System.getProperty("java.class.path"), one.getName());
            String now = null;
            for (String line : text.toString().split("\n")) {
                Matcher begins = head.matcher(line);
                if (begins.matches()) {
                    boolean makes = begins.group(1).equals(one.getName());
                    now = one.getName() + "." + (makes ? "<init>" : begins.group(1));
                    calls.putIfAbsent(now, new TreeSet<>());
                }
                Matcher found = call.matcher(line);
                if (now != null && found.find()) {
                    String owner = found.group(1) == null ? one.getName() : found.group(1);
                    calls.get(now).add(owner + "." + found.group(2));
                }
            }
        }
        return calls;
    }

    private static List<String> longest(Map<String, Set<String>> calls, String from, Set<String> open) {
        List<String> best = new ArrayList<>();
        for (String next : calls.get(from)) {
            // A library's method is in no class here; one that stands open already is recursion.
            if (calls.containsKey(next) && open.add(next)) {
                List<String> chain = longest(calls, next, open);
                best = chain.size() > best.size() ? chain : best;
                open.remove(next);
            }
        }
        best.add(0, from);
        return best;
    }

    private static void checkDepth() {
        Map<String, Set<String>> calls = callGraph();
        int deepest = 0;
        for (String face : FACE) {
            String from = "BarPilot." + face.substring(0, face.indexOf(' '));
            if (!calls.containsKey(from)) {
                fail("rule 11: the calls of " + from + " can't be seen");
                continue;
            }
            List<String> chain = longest(calls, from, new TreeSet<>(Set.of(from)));
            deepest = Math.max(deepest, chain.size());
            if (chain.size() > 8) {
                fail("rule 11, more than eight deep: " + chain);
            }
        }
        if (deepest < 3) {
            fail("rule 11: no calls were found");
        }
    }

    public static void main(String[] args) throws IOException {
        checkFace();
        checkClasses();
        checkText();
        checkDepth();
        System.out.println(wrong == 0 ? "the class keeps to the language" : wrong + " rules broken");
        if (wrong != 0) {
            System.exit(1);
        }
    }
}
