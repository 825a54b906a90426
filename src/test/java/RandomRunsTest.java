import java.util.Random;

/** Random runs of calls, the same ones each time, whose every answer must be the Model's. */
public final class RandomRunsTest {
    private static final String[] WORDS = {"ship", "joke", "cargo", "keeps", "like", "fresh", "known", "waiting",
        "since", "passed", "tide"};
    private static final String[] SIGNS = {"<", "<=", "=", ">=", ">"};
    private static final String[] ACTS = {"tide", "tide", "say", "trade", "coin", "dull", "undo"};
    private static final String[] ASKS = {"joke", "ship", "count", "ahead", "over", "alike", "fresh", "least", "row",
        "forget", "barter", "school", "old", "game", "parts", "order", "ruled", "look", "parrots"};

    private final Random random;
    private final boolean undoing;

    private RandomRunsTest(long seed) {
        random = new Random(seed);
        undoing = chance(20);
    }

    private int upTo(int n) {
        return random.nextInt(n);
    }

    private boolean chance(int percent) {
        return upTo(100) < percent;
    }

    private String blanks() {
        return chance(85) ? "" : "  ".substring(upTo(2));
    }

    String barText() {
        StringBuilder b = new StringBuilder();
        int jokes = chance(10) ? upTo(9) : 2 + upTo(7);
        int ships = chance(10) ? upTo(6) : 2 + upTo(4);
        int parts = 2 + upTo(4);
        b.append("bar ").append(chance(60) ? 1 + upTo(8) : 1 + upTo(60)).append(' ').append(1 + upTo(3));
        for (int i = 0; i < jokes; i++) {
            b.append(blanks()).append(";joke ").append(upTo(parts)).append(' ').append(upTo(parts)).append(' ')
                    .append(upTo(parts));
        }
        for (int i = 0; i < ships; i++) {
            b.append(";ship ").append(upTo(100)).append(' ').append(chance(50) ? upTo(8) : upTo(61)).append(blanks());
        }
        for (int i = upTo(4 + 3 * ships); i > 0 && jokes > 0 && ships > 0; i--) {
            b.append(";knows ").append(upTo(ships)).append(' ').append(upTo(jokes));
        }
        return b.toString();
    }

    private String value() {
        return chance(60) ? WORDS[upTo(WORDS.length)] : "" + (chance(70) ? upTo(10) : upTo(100000));
    }

    private String sum() {
        StringBuilder b = new StringBuilder(value());
        for (int i = upTo(4); i > 0 && chance(70); i--) {
            b.append(blanks()).append("+-*/%".charAt(upTo(5))).append(blanks()).append(value());
        }
        return b.toString();
    }

    private String fact(int deep) {
        if (deep < 4 && chance(15)) {
            return "not " + fact(deep + 1);
        }
        if (deep < 4 && chance(25)) {
            return "[" + blanks() + test(deep + 1) + "]";
        }
        return sum() + blanks() + SIGNS[upTo(5)] + blanks() + sum();
    }

    private String test(int deep) {
        StringBuilder b = new StringBuilder(fact(deep));
        for (int i = upTo(3); i > 0; i--) {
            b.append(chance(50) ? " and " : " or ").append(fact(deep));
        }
        return b.toString();
    }

    private String plainFact() {
        return (chance(15) ? "not " : "") + WORDS[upTo(WORDS.length)] + SIGNS[upTo(5)] + upTo(5);
    }

    /** Rules as a person would write them, which part jokes and ships more often than wild ones do. */
    private String plainRuleText() {
        StringBuilder b = new StringBuilder();
        for (int i = 1 + upTo(3); i > 0; i--) {
            b.append(b.length() == 0 ? "" : ";").append("tell ");
            b.append(chance(40) ? "" + upTo(6) : chance(50) ? 1 + upTo(9) + "-joke" : WORDS[upTo(WORDS.length)]);
            if (chance(30)) {
                b.append(chance(50) ? "+" : "*").append(WORDS[upTo(WORDS.length)]);
            }
            if (chance(70)) {
                b.append(" if ").append(plainFact());
                if (chance(40)) {
                    b.append(chance(50) ? " and " : " or ").append(plainFact());
                }
            }
        }
        return b.toString();
    }

    String ruleText() {
        return chance(60) ? plainRuleText() : wildRuleText();
    }

    private String wildRuleText() {
        StringBuilder b = new StringBuilder();
        for (int i = 1 + upTo(4); i > 0; i--) {
            b.append(b.length() == 0 ? "" : ";").append("tell ").append(sum());
            if (chance(60)) {
                b.append(" if ").append(test(0));
            }
        }
        return b.toString();
    }

    private String times(String text, int many) {
        return text.repeat(Math.max(0, many));
    }

    /** A rule about as deep, as long or of as many values as may be, or a little more. */
    String fullRuleText() {
        switch (upTo(4)) {
            case 0: {
                StringBuilder open = new StringBuilder();
                StringBuilder shut = new StringBuilder();
                for (int i = 8 + upTo(5); i > 0; i--) {
                    boolean not = chance(50);
                    open.append(not ? "not " : "[").append(blanks());
                    shut.append(not ? "" : "]");
                }
                String beside = chance(30) ? " and not [not joke<2] or " + fact(2) : "";
                return "tell 1 if " + open + plainFact().replace("not ", "") + shut + beside;
            }
            case 1:
                return "tell " + value() + times((chance(50) ? "+" : "%") + upTo(9), 56 + upTo(5))
                        + (chance(50) ? " if 1<" + value() : ";tell 1");
            case 2:
                return "tell 0 if 1<0" + times(" or " + upTo(3) + "=" + upTo(3), 17 + upTo(3)) + "+1+1";
            default:
                return "tell 1" + times(";tell " + upTo(9), 10 + upTo(3)) + times(";tells 1", upTo(2));
        }
    }

    /** A bar of about as many clauses, jokes or ships as may be, or a few more. */
    String fullBarText() {
        switch (upTo(3)) {
            case 0:
                return "bar 1 1;joke 0 1 2;ship 1 1" + times(";knows0 0", 36 + upTo(3))
                        + (chance(50) ? ";" : "") + (chance(50) ? "joke 1 1 1" : "");
            case 1:
                return "bar 9 2" + times(";joke 1 2 " + upTo(10), 7 + upTo(3)) + ";ship 1 1;knows 0 " + (6 + upTo(3));
            default:
                return "bar 9 3" + times(";ship " + upTo(99) + " 9", 4 + upTo(3)) + ";joke 1 1 1;knows " + (3 + upTo(3))
                        + " 0";
        }
    }

    /** A few bytes put in, taken out or changed; most such texts have a fault. */
    String spoiled(String text) {
        StringBuilder b = new StringBuilder(text);
        String bytes = "0123456789;;  []<>=+-*/%abeijknopstw,A\u00ff\u0000";
        for (int i = 1 + upTo(3); i > 0; i--) {
            int at = upTo(b.length() + 1);
            char sign = bytes.charAt(upTo(bytes.length()));
            int how = upTo(4);
            if (how == 0 || at == b.length()) {
                b.insert(at, sign);
            } else if (how == 1) {
                b.setCharAt(at, sign);
            } else if (how == 2) {
                b.deleteCharAt(at);
            } else {
                int stop = Math.min(b.length(), at + 1 + upTo(12));
                b.insert(upTo(b.length() + 1), b.substring(at, stop));
            }
        }
        return b.toString();
    }

    private static String cut(String text) {
        return text.length() > 400 ? text.substring(0, 400) : text;
    }

    private int near(int low, int high) {
        return chance(6) ? (chance(50) ? low - 1 : high + 1) : low + upTo(high - low + 1);
    }

    private int aShip() {
        return chance(3) ? 5 + upTo(9) : near(0, 4);
    }

    private int aJoke() {
        return chance(3) ? 8 + upTo(99) : near(0, 7);
    }

    void act(Both both) {
        String name = ACTS[upTo(ACTS.length)];
        switch (name) {
            case "say": both.call(name, aShip(), aJoke()); break;
            case "coin": both.call(name, aShip(), aJoke()); break;
            case "trade": both.call(name, aShip(), aShip()); break;
            case "dull": both.call(name, aJoke()); break;
            default: both.call(name); break;
        }
    }

    void ask(Both both) {
        String name = ASKS[upTo(ASKS.length)];
        switch (name) {
            case "joke": both.call(name, aJoke(), near(0, 5)); break;
            case "ship": both.call(name, aShip(), near(0, 3)); break;
            case "count": both.call(name, near(0, 13)); break;
            case "ahead": both.call(name, aShip(), near(0, 100), near(0, 2)); break;
            case "over": both.call(name, aShip(), near(0, 1)); break;
            case "alike": both.call(name, aJoke(), aJoke()); break;
            case "row": both.call(name, aShip(), chance(90) ? near(1, 3) : near(1, 4), near(0, 4)); break;
            case "forget": both.call(name, near(1, 60), near(0, 1)); break;
            case "barter": both.call(name, near(1, 60), near(0, 2)); break;
            case "school": both.call(name, near(1, 60), near(0, 1)); break;
            case "old": both.call(name, near(-1, 5), near(1, 60), near(0, 5), near(0, 2)); break;
            case "game": both.call(name, aShip(), aShip(), near(1, 3), near(0, 1)); break;
            case "parts": both.call(name, chance(50) ? upTo(30) : near(0, 9999), aShip()); break;
            case "order": both.call(name, aShip()); break;
            case "ruled": both.call(name, near(0, 1)); break;
            case "look": both.call(name, chance(50) ? near(0, 6) : near(0, 60), near(0, 1)); break;
            case "parrots": both.call(name, near(1, 10), near(1, 60), near(0, 100), near(0, 1)); break;
            default: both.call(name); break;
        }
    }

    /** Notes that are so by one of the rules, most of the time, so that RULED has something to find. */
    void note(Both both) {
        if (chance(8)) {
            both.call("note", -1, aShip(), aJoke());
            return;
        }
        int tide = chance(70) ? upTo(5) : near(0, 60);
        int ship = aShip();
        int joke = near(-1, 7);
        int rules = both.model.rules.size();
        if (chance(80) && both.model.ship(ship) && tide >= 0 && tide <= 60) {
            int[][] said = both.model.candidate(upTo(rules + 1) - 1);
            joke = said == null ? joke : said[tide][ship];
        }
        both.call("note", tide, ship, joke);
    }

    void one(Both both) {
        int kind = upTo(100);
        if (undoing && chance(30)) {
            both.call("undo");
            return;
        }
        if (undoing && chance(20)) {
            both.call(chance(40) ? "image" : "back", upTo(2));
            return;
        }
        if (kind < 35) {
            act(both);
        } else if (kind < 80) {
            ask(both);
        } else if (kind < 84) {
            both.call("force", near(-1, 5));
        } else if (kind < 88) {
            note(both);
        } else if (kind < 90) {
            both.call("seed", chance(10) ? -upTo(9) : random.nextInt() & Integer.MAX_VALUE);
        } else if (kind < 94) {
            both.call(chance(50) ? "image" : "back", near(0, 3));
        } else if (kind < 96) {
            both.text(cut(ruleText()));
            both.call("rule");
        } else if (kind < 97) {
            both.text(cut(barText()));
            both.call("bar");
        } else if (kind < 98) {
            both.call("feed", upTo(9), upTo(9), upTo(9), random.nextInt(), random.nextInt());
        } else if (kind < 99) {
            both.call("end", chance(30) ? near(0, 400) : 0);
        } else {
            both.text(cut(spoiled(chance(50) ? barText() : ruleText())));
            both.call(chance(50) ? "bar" : "rule");
        }
    }

    void run(int calls) {
        Both both = new Both();
        for (int i = upTo(4); i > 0; i--) {
            both.text(cut(ruleText()));
            both.call("rule");
        }
        if (chance(95)) {
            both.text(cut(barText()));
            both.call("bar");
        }
        both.call("force", upTo(3) - 1);
        for (int i = 0; i < calls; i++) {
            one(both);
        }
        for (int what = -1; what < 15; what++) {
            both.call("count", what);
        }
    }

    void texts(int many) {
        Both both = new Both();
        for (int i = 0; i < many; i++) {
            boolean bar = chance(50);
            boolean full = chance(25);
            String text = bar ? (full ? fullBarText() : barText()) : (full ? fullRuleText() : ruleText());
            both.call("end", 0);
            both.text(cut(chance(full ? 30 : 85) ? spoiled(text) : text));
            int answer = both.call(bar ? "bar" : "rule");
            if (!bar && answer == 5) {
                return;
            }
        }
    }

    public static void main(String[] args) {
        int runs = args.length > 0 ? Integer.parseInt(args[0]) : 1500;
        long from = args.length > 1 ? Long.parseLong(args[1]) : 0;
        for (long seed = from; seed < from + runs; seed++) {
            RandomRunsTest test = new RandomRunsTest(seed);
            test.texts(60);
            test.run(150);
        }
        System.out.println(Both.calls + " calls, " + Both.wrong + " answers not as due");
        if (Both.wrong != 0 || Both.calls < 100) {
            System.exit(1);
        }
    }
}
