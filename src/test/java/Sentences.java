import java.io.IOException;
import java.io.UncheckedIOException;
import java.nio.file.Files;
import java.nio.file.Path;
import java.util.Arrays;
import java.util.BitSet;
import java.util.Set;
import java.util.TreeSet;
import java.util.function.Supplier;

/**
 * Tests of single sentences. Each names a promise and quotes words of the document: they must stand under that
 * promise or in the terms, and in the end every word there must have been quoted by some test.
 */
abstract class Sentences {
    static final int NONE = BarPilot.NONE;
    /** FADES 3, LIKE 2; jokes 0 and 1 are like; ship 0 knows 0, ship 1 knows 1 and 2. */
    static final String TWO = "bar 3 2;joke 1 2 3;joke 1 2 9;joke 4 5 6;ship 50 2;ship 20 9"
            + ";knows 0 0;knows 1 1;knows 1 2";
    /** One joke, remembered for two tides, and three ships that know it: they pass on tides 0, 2 and 4. */
    static final String QUEUE = "bar 2 3;joke 1 1 1;ship 9 0;ship 4 2;ship 2 3;knows 0 0;knows 1 0;knows 2 0";

    private static final Path DOCUMENT = Path.of("../shared/DOC.md");
    private static final String TERMS = "## Terms";
    private static final String REST = "## Not promised";
    private static final int PROMISES = 35;

    private static final String text = readDocument();
    private static final BitSet quoted = new BitSet();
    private static final Set<Integer> named = new TreeSet<>();
    private static int tests = 0;
    private static int checks = 0;
    private static int wrong = 0;
    private static String now = "";

    private static String readDocument() {
        try {
            return Files.readString(DOCUMENT).replaceAll("\\s+", " ");
        } catch (IOException e) {
            throw new UncheckedIOException(e);
        }
    }

    // ---- tests

    static void test(int promise, String words, Runnable body) {
        tests++;
        now = "promise " + promise + ", \"" + words + "\": ";
        named.add(promise);
        boolean found = quote(TERMS, "## Promise 1:", words);
        found |= quote("## What it is", "## The public face", words);
        String behind = promise < PROMISES ? "## Promise " + (promise + 1) + ":" : REST;
        found |= quote("## Promise " + promise + ":", behind, words);
        if (!found) {
            fail("the document has no such words there");
        }
        try {
            body.run();
        } catch (RuntimeException e) {
            fail("threw " + e);
        }
    }

    private static boolean quote(String from, String to, String words) {
        boolean found = false;
        int stop = text.indexOf(to);
        for (int at = text.indexOf(words, text.indexOf(from)); at >= 0 && at + words.length() <= stop;
                at = text.indexOf(words, at + 1)) {
            quoted.set(at, at + words.length());
            found = true;
        }
        return found;
    }

    static void due(String call, int got, int want) {
        checks++;
        if (got != want) {
            fail(call + " answered " + got + ", due is " + want);
        }
    }

    static void fail(String what) {
        wrong++;
        System.out.println(now + what);
    }

    /** Ends the program; it is wrong, too, if a promise has no test, or a word of the document was quoted by none. */
    static void finish() {
        now = "";
        for (int promise = 1; promise <= PROMISES; promise++) {
            if (!named.contains(promise)) {
                fail("promise " + promise + " has no test");
            }
        }
        skip("## Promise \\d+: \\w+( \\w+)* `[^`]*`");
        skip("```text|```|==== I+\\.");
        int from = text.indexOf(TERMS) + TERMS.length();
        int stop = text.indexOf(REST);
        for (int at = from; at < stop; at++) {
            if (!quoted.get(at) && Character.isLetterOrDigit(text.charAt(at))) {
                int end = Math.min(stop, quoted.nextSetBit(at) < 0 ? stop : quoted.nextSetBit(at));
                fail("no test quotes: " + text.substring(at, end));
                at = end;
            }
        }
        System.out.println(tests + " sentences, " + checks + " checks, " + wrong + " not as due");
        System.exit(wrong == 0 ? 0 : 1);
    }

    /** Marks headings and signatures: they are no sentences. */
    private static void skip(String pattern) {
        var matcher = java.util.regex.Pattern.compile(pattern).matcher(text);
        while (matcher.find()) {
            quoted.set(matcher.start(), matcher.end());
        }
    }

    // ---- objects

    static String times(String text, int many) {
        return text.repeat(many);
    }

    static int fault(int place, int kind) {
        return -2 - (1 + 8 * place + kind);
    }

    static void put(BarPilot b, String text) {
        for (int at = 0; at < text.length(); at += 20) {
            int[] five = new int[5];
            for (int i = 0; i < 20; i++) {
                int sign = at + i < text.length() ? text.charAt(at + i) & 255 : 0;
                five[i / 4] |= sign << 24 - 8 * (i % 4);
            }
            b.feed(five[0], five[1], five[2], five[3], five[4]);
        }
        b.end(text.length());
    }

    static int readBar(BarPilot b, String text) {
        put(b, text);
        return b.bar();
    }

    static int readRule(BarPilot b, String text) {
        put(b, text);
        return b.rule();
    }

    /** What a new object answers for the text of a bar, or of a rule. */
    static void dueBar(String text, int want) {
        due("bar() of " + text, readBar(new BarPilot(), text), want);
    }

    static void dueRule(String text, int want) {
        due("rule() of " + text, readRule(new BarPilot(), text), want);
    }

    /** A new object with a bar and rules, of which the first is in force. */
    static BarPilot open(String bar, String... rules) {
        BarPilot b = new BarPilot();
        if (readBar(b, bar) < 0) {
            fail("no bar: " + bar);
        }
        for (int i = 0; i < rules.length; i++) {
            if (readRule(b, rules[i]) != i) {
                fail("no rule: " + rules[i]);
            }
        }
        if (rules.length > 0) {
            b.force(0);
        }
        return b;
    }

    static BarPilot tides(BarPilot b, int many) {
        for (int i = 0; i < many; i++) {
            b.tide();
        }
        return b;
    }

    /** Whether a TEST holds of ship 0 and joke 0: then it tells joke 0, else the last one, which nobody has told. */
    static boolean holds(BarPilot b, String test) {
        int last = b.count(2) - 1;
        int rule = readRule(b, "tell 2 if ship=0 and joke=0 and[" + test + "];tell 1 if ship=0 and joke=" + last);
        if (rule < 0) {
            fail("no rule: " + test);
        }
        b.force(rule);
        b.tide();
        return b.joke(last, 5) != 1;
    }

    static void dueTrue(Supplier<BarPilot> state, String... tests) {
        for (String test : tests) {
            due(test, holds(state.get(), test) ? 1 : 0, 1);
        }
    }

    static void dueFalse(Supplier<BarPilot> state, String... tests) {
        for (String test : tests) {
            due(test, holds(state.get(), test) ? 1 : 0, 0);
        }
    }

    /** All that can be seen of an object without a question that goes on. */
    static String state(BarPilot b) {
        int jokes = b.count(2);
        int ships = b.count(3);
        int[] seen = new int[14 + jokes + 2 * ships];
        for (int what = 0; what < 14; what++) {
            seen[what] = b.count(what);
        }
        for (int joke = 0; joke < jokes; joke++) {
            seen[14 + joke] = b.joke(joke, 5);
        }
        for (int ship = 0; ship < ships; ship++) {
            seen[14 + jokes + 2 * ship] = b.ship(ship, 2);
            seen[15 + jokes + 2 * ship] = b.ship(ship, 3);
        }
        return Arrays.toString(seen);
    }

    static void nothingHappens(BarPilot b, Runnable calls) {
        String before = state(b);
        calls.run();
        checks++;
        String after = state(b);
        if (!before.equals(after)) {
            fail("it was " + before + ", and is " + after);
        }
    }
}
