/** For each promise of the document calls whose answers were found by hand: ordinary ones, edges and wrong ones. */
public final class PromisesTest {
    private static int checks = 0;
    private static int wrong = 0;
    private static int promise = 0;

    private static final String TWO = "bar 3 2;joke 1 2 3;joke 1 2 9;joke 4 5 6;ship 50 2;ship 20 9"
            + ";knows 0 0;knows 1 1;knows 1 2";
    private static final int NONE = BarPilot.NONE;

    private static void due(String call, int got, int want) {
        checks++;
        if (got != want) {
            wrong++;
            System.out.println("promise " + promise + ": " + call + " answered " + got + ", due is " + want);
        }
    }

    private static void put(BarPilot b, String text) {
        for (int at = 0; at < text.length(); at += 20) {
            int[] five = new int[5];
            for (int i = 0; i < 20; i++) {
                int sign = at + i < text.length() ? text.charAt(at + i) : 0;
                five[i / 4] |= sign << 24 - 8 * (i % 4);
            }
            b.feed(five[0], five[1], five[2], five[3], five[4]);
        }
        b.end(text.length());
    }

    private static BarPilot withBar(String text) {
        BarPilot b = new BarPilot();
        put(b, text);
        if (b.bar() < 0) {
            wrong++;
            System.out.println("promise " + promise + ": no bar: " + text);
        }
        return b;
    }

    private static BarPilot withBarAndRule(String bar, String rule) {
        BarPilot b = withBar(bar);
        if (readRule(b, rule) < 0) {
            wrong++;
            System.out.println("promise " + promise + ": no rule: " + rule);
        }
        b.force(0);
        return b;
    }

    private static int readBar(BarPilot b, String text) {
        put(b, text);
        return b.bar();
    }

    private static int readRule(BarPilot b, String text) {
        put(b, text);
        return b.rule();
    }

    private static int fault(int place, int kind) {
        return -2 - (1 + 8 * place + kind);
    }

    private static String times(String text, int many) {
        return text.repeat(many);
    }

    private static void newObject() {
        promise = 1;
        BarPilot b = new BarPilot();
        for (int what = 0; what <= 13; what++) {
            due("count(" + what + ")", b.count(what), what == 5 ? NONE : 0);
        }
        due("fresh()", b.fresh(), NONE);
        due("force(0)", b.force(0), -2);
        due("NONE", BarPilot.NONE, -1);
    }

    private static void tape() {
        promise = 2;
        BarPilot b = new BarPilot();
        for (int i = 1; i <= 20; i++) {
            due("feed", b.feed(i, 0, -1, 7, 9), 20 * i);
        }
        due("feed on 400", b.feed(0, 0, 0, 0, 0), NONE);
        due("count(13)", b.count(13), 400);
        due("end(381)", b.end(381), 381);
        due("feed on 381", b.feed(0, 0, 0, 0, 0), NONE);
        due("end(380)", b.end(380), 380);
        due("feed on 380", b.feed(0, 0, 0, 0, 0), 400);
        b.end(0);
        b.feed(('b' << 24) + ('a' << 16) + ('r' << 8) + ' ', ('5' << 24) + (' ' << 16) + ('1' << 8) + ' ', 0, 0, 0);
        b.end(7);
        due("bar() of bar 5 1", b.bar(), 0);
        due("count(0)", b.count(0), 5);

        promise = 3;
        b = new BarPilot();
        due("end(0)", b.end(0), 0);
        due("end(1)", b.end(1), NONE);
        due("end(-1)", b.end(-1), NONE);
        b.feed(1, 2, 3, 4, 5);
        due("end(21)", b.end(21), NONE);
        due("count(13)", b.count(13), 20);
        due("end(20)", b.end(20), 20);
        due("end(3)", b.end(3), 3);
        due("end(4)", b.end(4), NONE);
        due("count(13)", b.count(13), 3);
    }

    private static void bars() {
        promise = 4;
        BarPilot b = new BarPilot();
        due("all", readBar(b, "bar 60 3;joke 9 9 9;ship 99 60;knows 0 0;knows 0 0"), 1);
        due("blanks", readBar(b, "  bar3 2 ;joke 0 00 00009  ;ship  7  8  "), 1);
        due("its fades", b.count(0), 3);
        due("its kin", b.joke(0, 2), 9);
        due("only bar", readBar(b, "bar 1 1"), 0);
        due("empty", readBar(b, ""), fault(0, 0));
        due("blanks alone", readBar(b, "   "), fault(3, 0));
        due("first no bar", readBar(b, " joke 1 1 1"), fault(1, 4));
        due("knows ahead", readBar(b, "knows 0 0;bar 1 1"), fault(0, 4));
        due("no such word", readBar(b, "bard 1 1"), fault(0, 0));
        due("a long word", readBar(b, "barbarbarbar 1 1"), fault(0, 0));
        due("big letters", readBar(b, "Bar 1 1"), fault(0, 0));
        due("fades 0", readBar(b, "bar 0 1"), fault(4, 1));
        due("fades 61", readBar(b, "bar 61 1"), fault(4, 1));
        due("six digits", readBar(b, "bar 000001 1"), fault(4, 1));
        due("five digits", readBar(b, "bar 00001 1"), 0);
        due("like 0", readBar(b, "bar 1 0"), fault(6, 1));
        due("like 4", readBar(b, "bar 1 4"), fault(6, 1));
        due("like missing", readBar(b, "bar 1 "), fault(6, 0));
        due("one number more", readBar(b, "bar 1 1 1"), fault(8, 0));
        due("a word behind", readBar(b, "bar 1 1joke"), fault(7, 0));
        due("nothing behind ;", readBar(b, "bar 1 1;"), fault(8, 0));
        due("second bar", readBar(b, "bar 1 1; bar 1 1"), fault(9, 4));
        due("set 10", readBar(b, "bar 1 1;joke 10 0 0"), fault(13, 1));
        due("kin missing", readBar(b, "bar 1 1;joke 1 0;"), fault(16, 0));
        due("cargo 100", readBar(b, "bar 1 1;ship 100 0"), fault(13, 1));
        due("keeps 61", readBar(b, "bar 1 1;ship 0 61"), fault(15, 1));
        due("knows no ship", readBar(b, "bar 1 1;joke 0 0 0;knows 0 0"), fault(25, 1));
        due("knows no joke", readBar(b, "bar 1 1;ship 0 0;knows 0 0"), fault(25, 1));
        due("knows a later one", readBar(b, "bar 1 1;ship 0 0;knows 0 0;joke 1 1 1"), fault(25, 1));
        due("eight jokes", readBar(b, "bar 1 1" + times(";joke 1 1 1", 8)), 0);
        due("nine", readBar(b, "bar 1 1" + times(";joke 1 1 1", 9)), fault(7 + 8 * 11 + 1, 4));
        due("five ships", readBar(b, "bar 1 1" + times(";ship 1 1", 5)), 5);
        due("six", readBar(b, "bar 1 1" + times(";ship 1 1", 6)), fault(7 + 5 * 9 + 1, 4));
        String forty = "bar 1 1;ship 1 1;joke 1 1 1" + times(";knows0 0", 37);
        due("40 clauses", readBar(b, forty), 1);
        due("41", readBar(b, forty + "; knows 0 0"), fault(forty.length() + 2, 4));
        due("41, other word", readBar(b, forty + ";nows 0 0"), fault(forty.length() + 1, 0));
        due("41, the end", readBar(b, forty + ";"), fault(forty.length() + 1, 0));
        due("a byte 255", readBar(b, "bar 1 1\u00ff"), fault(7, 0));
        due("a byte 0", readBar(b, "bar 1 1\u0000"), fault(7, 0));
        due("all stayed", b.count(3), 1);
        due("the tape is empty", b.count(13), 0);

        b = withBarAndRule(TWO, "tell 1");
        b.seed(77);
        b.tide();
        b.note(0, 0, 0);
        due("ahead", b.count(11), 1);
        due("another", readBar(b, "bar 4 1;joke 1 1 1;ship 3 4"), 1);
        due("fades", b.count(0), 4);
        due("tide", b.count(6), 0);
        due("earned", b.count(7), 0);
        due("waits", b.count(8), 1);
        due("remembers", b.count(9), 0);
        due("notes", b.count(10), 0);
        due("acts", b.count(11), 0);
        due("in force", b.count(5), 0);
        due("x", b.count(12), 77);
        due("knows", b.ship(0, 2), 0);
    }

    private static void rules() {
        promise = 5;
        BarPilot b = new BarPilot();
        due("empty", readRule(b, ""), fault(0, 0));
        due("no tell", readRule(b, "tells 1"), fault(0, 0));
        due("no sum", readRule(b, "tell"), fault(4, 0));
        due("no such word", readRule(b, "tell knows"), fault(5, 0));
        due("keyword as value", readRule(b, "tell if"), fault(5, 0));
        due("not as value", readRule(b, "tell not 1<2"), fault(5, 0));
        due("bracket as value", readRule(b, "tell [1]"), fault(5, 0));
        due("minus ahead", readRule(b, "tell -1"), fault(5, 0));
        due("six digits", readRule(b, "tell 1+123456"), fault(7, 1));
        due("two values", readRule(b, "tell 1 2"), fault(7, 0));
        due("no test", readRule(b, "tell 1 if"), fault(9, 0));
        due("no sign", readRule(b, "tell 1 if 2"), fault(11, 0));
        due("signs parted", readRule(b, "tell 1 if 2< =3"), fault(13, 0));
        due("signs the wrong way", readRule(b, "tell 1 if 2=<3"), fault(12, 0));
        due("two signs", readRule(b, "tell 1 if 2<3<4"), fault(13, 0));
        due("no ]", readRule(b, "tell 1 if [1<2"), fault(14, 0));
        due("] alone", readRule(b, "tell 1 if 1<2]"), fault(13, 0));
        due("words run on", readRule(b, "tell 1 if 1<shipand 2<3"), fault(12, 0));
        due("nothing behind ;", readRule(b, "tell 1; "), fault(8, 0));
        due("a to z run on", readRule(b, "tell shipz"), fault(5, 0));
        due("a to z run on", readRule(b, "tell aship"), fault(5, 0));
        due("no letter", readRule(b, "tell ship{"), fault(9, 0));
        due("no letter", readRule(b, "tell ship`"), fault(9, 0));
        due("no digit", readRule(b, "tell 1:"), fault(6, 0));
        due("eleven [", readRule(b, "tell 1 if " + times("[", 11) + "1<2"), fault(20, 2));
        due("eleven not", readRule(b, "tell 1 if " + times("not ", 11) + "1<2"), fault(50, 2));
        due("mixed", readRule(b, "tell 1 if " + times("not[", 5) + "not 1<2"), fault(30, 2));
        String deep = "tell 1 if " + times("[", 10) + "1<2" + times("]", 10);
        String wide = "tell 1" + times("+1", 59);
        due("61 values", readRule(b, wide + "+ 1"), fault(wide.length() + 2, 3));
        due("61st of too many digits", readRule(b, wide + "+123456"), fault(wide.length() + 1, 1));
        due("61st no such word", readRule(b, wide + "+xx"), fault(wide.length() + 1, 0));
        String facts = "tell 1" + times("+1", 55) + " if 1+1";
        due("61st behind a sign", readRule(b, facts + "+1<2"), fault(facts.length() + 3, 3));
        due("the sign is the 61st", readRule(b, facts + "+1+1<2"), fault(facts.length() + 4, 3));
        due("over two clauses", readRule(b, wide + ";tell 1"), fault(wide.length() + 6, 3));
        String twelve = "tell 1" + times(";tell 1", 11);
        due("13 clauses", readRule(b, twelve + "; tell 1"), fault(twelve.length() + 2, 4));
        due("13, other word", readRule(b, twelve + "; sell 1"), fault(twelve.length() + 2, 0));
        due("none yet", b.count(4), 0);
        due("10 deep", readRule(b, deep), 0);
        due("60 values", readRule(b, wide), 1);
        due("12 clauses", readRule(b, twelve), 2);
        due("10 twice", readRule(b, deep + " and " + deep.substring(10)), 3);
        due("60 with a sign", readRule(b, facts + "<2"), 4);
        due("all signs", readRule(b, "tell1+2-3*4/5%6if not[1<2or 1<=2 and 1=2]or 1>=2 and 1>2"), 5);
        put(b, "tell 1");
        due("a seventh", b.rule(), NONE);
        due("the tape stays", b.count(13), 6);
        b.end(0);
        due("a seventh, empty", b.rule(), NONE);
        due("count(4)", b.count(4), 6);

        promise = 6;
        b = withBar(TWO);
        readRule(b, "tell 1");
        readRule(b, "tell 2");
        due("force(1)", b.force(1), NONE);
        due("force(0)", b.force(0), 1);
        due("force(2)", b.force(2), -2);
        due("force(-2)", b.force(-2), -2);
        due("count(5)", b.count(5), 0);
        due("force(NONE)", b.force(NONE), 0);
        due("count(5)", b.count(5), NONE);
    }

    /**
     * What the one ship that waits tells by a rule on tide 1. Joke 0 was heard on tide 0, so that 0 and 1 are not new;
     * 2 has one part alike to it, 3 none.
     */
    private static void tells(String rule, int joke) {
        BarPilot b = withBarAndRule("bar 5 2;joke 1 1 1;joke 1 1 2;joke 3 3 1;joke 4 4 4;ship 60 10;ship 7 1;ship 5 5"
                + ";knows 0 0;knows 0 1;knows 0 2;knows 0 3;knows 1 0;knows 2 3", "tell 0");
        b.say(1, 0);
        b.say(2, 3);
        b.dull(3);
        b.tide();
        due(rule, readRule(b, rule), 1);
        b.force(1);
        b.tide();
        int told = NONE;
        for (int j = 0; j < 4; j++) {
            told = b.joke(j, 5) == 1 ? j : told;
        }
        due(rule, told, joke);
    }

    private static void ruleMeanings() {
        promise = 9;
        tells("tell 1", 0);
        tells("tell joke", 3);
        tells("tell 0", -1);
        tells("tell 0-1", -1);
        tells("tell 3-joke", 0);
        tells("tell fresh", 2);
        tells("tell 1-fresh", 0);
        tells("tell like", 0);
        tells("tell like if like<3", 1);
        tells("tell 4-like", 3);
        tells("tell 1 if like=3", 0);
        tells("tell 1 if like=2", 1);
        tells("tell 1 if like=1", 2);
        tells("tell 1 if like=0", 3);
        tells("tell joke" + " if 1<2" + times(" and 1<2", 18), 3);
        tells("tell joke" + " if 2<1" + times(" or 2<1", 17) + " or joke<2", 1);
        tells(times("tell 9 if 2<1;", 11) + "tell joke", 3);
        tells("tell joke if 1<2 and 1<2 or 1<2 and 2<1 or 2<1 and 1<2 or 1<2", 3);
        tells("tell since-1", 1);
        tells("tell 5 if since=1;tell 6 if joke=2", 2);
        tells("tell 5 if joke=1;tell 9 if joke=1;tell 7 if joke=2", 2);
        tells("tell 5 if joke=1;tell 3", 1);
        tells("tell joke if cargo=60", 3);
        tells("tell joke if keeps=9", 3);
        tells("tell joke if keeps=10", -1);
        tells("tell joke if tide=1", 3);
        tells("tell joke if waiting=1", 3);
        tells("tell joke if passed=2", 3);
        tells("tell known if joke=2", 2);
        tells("tell joke if ship=0", 3);
        tells("tell 10-joke*3", 0);
        tells("tell 2+joke*3", 3);
        tells("tell 7/2*2-6", -1);
        tells("tell 7/2*2-5", 0);
        tells("tell 7%4+joke%2", 1);
        tells("tell 0-7/2+4", 0);
        tells("tell 5/0+5%0", -1);
        tells("tell joke if joke>1 and joke<3", 2);
        tells("tell joke if joke=0 or joke=1 and joke=1", 1);
        tells("tell joke if joke=2 or joke=1 and joke=3", 2);
        tells("tell joke if [joke=3 or joke=1] and joke<2", 1);
        tells("tell joke if not joke=3", 2);
        tells("tell joke if not joke=3 and not joke=2", 1);
        tells("tell joke if not [joke=3 or joke=2]", 1);
        tells("tell joke if not not joke>=2", 3);
        tells("tell joke if joke<=2", 2);
        tells("tell 99999*99999*99999*99999", 0);
        tells("tell 99999*99999*99999*99999*0+1", 0);
        tells("tell 65536*65536*65536*32768-joke", 1);
    }

    private static void jokesAndShips() {
        promise = 7;
        BarPilot b = withBar(TWO);
        due("set", b.joke(1, 0), 1);
        due("turn", b.joke(1, 1), 2);
        due("kin", b.joke(1, 2), 9);
        b.say(1, 1);
        due("remembered", b.joke(1, 3), 1);
        due("not heard", b.joke(0, 3), 0);
        due("like one remembered", b.joke(0, 4), 0);
        due("remembered, not new", b.joke(1, 4), 0);
        due("new", b.joke(2, 4), 1);
        due("since", b.joke(1, 5), 0);
        due("never", b.joke(0, 5), 99);
        b.say(0, 0);
        for (int i = 0; i < 3; i++) {
            due("remembered", b.joke(1, 3), 1);
            b.force(NONE);
            readRule(b, "tell 0");
            b.force(0);
            b.tide();
        }
        due("faded", b.joke(1, 3), 0);
        due("new again", b.joke(1, 4), 1);
        due("since", b.joke(1, 5), 3);
        for (int i = 3; i < 98; i++) {
            b.tide();
        }
        due("since 98", b.joke(1, 5), 98);
        b.tide();
        due("since 99", b.joke(1, 5), 99);
        b.tide();
        due("99 at most", b.joke(1, 5), 99);
        due("what -1", b.joke(0, -1), NONE);
        due("what 6", b.joke(0, 6), NONE);
        due("joke 3", b.joke(3, 0), NONE);
        due("joke -1", b.joke(-1, 0), NONE);

        promise = 8;
        b = withBar(TWO);
        due("cargo", b.ship(1, 0), 20);
        due("keeps", b.ship(1, 1), 9);
        due("knows", b.ship(1, 2), 6);
        due("waits", b.ship(1, 3), NONE);
        b.tide();
        b.tide();
        due("passed", b.ship(1, 3), 0);
        due("what 4", b.ship(1, 4), -2);
        due("what -1", b.ship(1, -1), -2);
        due("ship 2", b.ship(2, 0), -2);
        due("ship -1", b.ship(-1, 0), -2);
    }

    private static void tides() {
        promise = 9;
        due("without a bar", new BarPilot().tide(), NONE);
        // Joke 0 is new for ship 0, and joke 1 is then not new for ship 1 any more, which has joke 2, too.
        BarPilot b = withBar(TWO);
        due("both", b.tide(), 3);
        due("heard", b.count(9), 5);
        due("earned", b.count(7), 70);
        due("nobody waits", b.tide(), 0);
        // All know the one joke: one passes when it has faded, after two tides each; 9 and 4 keep, the last not.
        b = withBar("bar 2 3;joke 1 1 1;ship 9 0;ship 4 2;ship 2 3;knows 0 0;knows 1 0;knows 2 0");
        due("tide 0", b.tide(), 1);
        due("tide 1", b.tide(), 0);
        due("tide 2", b.tide(), 2);
        due("tide 3", b.tide(), 0);
        due("earned", b.count(7), 13);
        due("tide 4", b.tide(), 4);
        due("came too late", b.count(7), 13);
        due("passed on", b.ship(2, 3), 4);
        // By the rule ship 1 tells though it is not new, so that it never fades.
        b = withBarAndRule("bar 2 3;joke 1 1 1;ship 9 0;ship 4 2;knows 0 0;knows 1 0", "tell 1");
        due("tide 0", b.tide(), 1);
        due("tide 1", b.tide(), 0);
        due("tide 2", b.tide(), 0);
        due("told anew", b.joke(0, 5), 1);
        // Each by how all is then: ship 1 finds one ship fewer waiting.
        b = withBarAndRule("bar 2 3;joke 1 1 1;joke 2 2 2;ship 9 0;ship 4 2;knows 0 0;knows 1 0;knows 1 1",
                "tell joke+1 if waiting=1;tell 2-joke");
        due("both", b.tide(), 3);
        due("both jokes", b.count(9), 3);
        for (int i = 1; i < 999; i++) {
            b.tide();
        }
        due("tide", b.count(6), 999);
        due("at 999", b.tide(), NONE);
        due("tide", b.count(6), 999);
        due("ahead beyond 999", b.ahead(0, 100, 2), 2);
    }

    private static void handActs() {
        promise = 10;
        BarPilot b = withBar(TWO);
        due("not known", b.say(0, 1), NONE);
        due("no joke", b.say(0, 3), NONE);
        due("no joke", b.say(0, -1), NONE);
        due("no ship", b.say(2, 0), NONE);
        due("no ship", b.say(-1, 0), NONE);
        due("no act yet", b.count(11), 0);
        due("new", b.say(1, 1), 1);
        due("earned", b.count(7), 20);
        due("passed already", b.say(1, 2), NONE);
        due("not new", b.say(0, 0), 0);
        due("heard all the same", b.count(9), 3);
        due("tide stays", b.count(6), 0);
        b = withBar("bar 1 1;joke 1 1 1;ship 5 1;knows 0 0");
        put(b, "tell 0");
        b.rule();
        b.force(0);
        b.tide();
        b.tide();
        due("too late", b.say(0, 0), 1);
        due("earned", b.count(7), 0);
        due("passed on", b.ship(0, 3), 2);

        promise = 11;
        b = withBar(TWO + ";ship 1 1;knows 2 0");
        due("itself", b.trade(1, 1), NONE);
        due("the same jokes", b.trade(0, 2), NONE);
        due("no ship", b.trade(0, 3), NONE);
        due("no ship", b.trade(-1, 0), NONE);
        due("traded", b.trade(1, 0), 7);
        due("one", b.ship(0, 2), 7);
        due("other", b.ship(1, 2), 7);
        due("third", b.ship(2, 2), 1);
        due("one knows fewer", b.trade(2, 0), 7);
        b.say(0, 0);
        due("passed", b.trade(0, 1), NONE);

        promise = 12;
        b = withBar(TWO);
        due("known", b.coin(1, 1), NONE);
        due("no joke", b.coin(0, 3), NONE);
        due("no joke", b.coin(0, -1), NONE);
        due("no ship", b.coin(2, 0), NONE);
        due("one more", b.coin(0, 2), 5);
        due("one more", b.coin(0, 1), 7);
        b.say(1, 1);
        due("passed", b.coin(1, 0), NONE);

        promise = 13;
        b = withBar(TWO);
        due("never heard", b.dull(0), NONE);
        due("no joke", b.dull(3), NONE);
        due("no joke", b.dull(-1), NONE);
        b.tide();
        b.tide();
        due("heard", b.dull(2), 2);
        due("never now", b.joke(2, 5), 99);
        due("forgotten", b.count(9), 1);
        due("forgotten", b.dull(2), NONE);
        b.tide();
        due("faded", b.dull(0), NONE);
    }

    private static void undoing() {
        promise = 14;
        BarPilot b = withBar(TWO);
        due("nothing", b.undo(), -2);
        b.coin(0, 1);
        b.trade(0, 1);
        b.say(0, 2);
        b.dull(2);
        b.tide();
        b.force(NONE);
        b.seed(5);
        b.note(0, 0, 0);
        due("tide", b.undo(), 4);
        due("tide", b.count(6), 0);
        due("dull", b.undo(), 3);
        due("remembered", b.count(9), 4);
        due("say", b.undo(), 2);
        due("waits", b.ship(0, 3), NONE);
        due("not heard", b.count(9), 0);
        due("trade", b.undo(), 1);
        due("knows", b.ship(1, 2), 6);
        due("coin", b.undo(), 0);
        due("knows", b.ship(0, 2), 1);
        due("nothing", b.undo(), -2);
        due("x", b.count(12), 5);
        due("notes", b.count(10), 1);
        for (int i = 0; i < 25; i++) {
            b.tide();
        }
        due("acts", b.count(11), 20);
        for (int i = 19; i >= 0; i--) {
            due("undo", b.undo(), i);
        }
        due("no more", b.undo(), -2);
        due("tide", b.count(6), 5);
        due("refused ones are none", b.say(9, 9), NONE);
        due("acts", b.count(11), 0);
    }

    // One joke, three ships that know it: they pass on tides 0, 2 and 4.
    private static final String QUEUE = "bar 2 3;joke 1 1 1;ship 9 0;ship 4 2;ship 2 3;knows 0 0;knows 1 0;knows 2 0";

    private static void lookingAhead() {
        promise = 15;
        BarPilot b = withBar(QUEUE);
        due("now", b.ahead(0, 0, 0), NONE);
        due("tide 0", b.ahead(0, 1, 0), 0);
        due("tide 2", b.ahead(1, 2, 0), NONE);
        due("tide 2", b.ahead(1, 3, 0), 2);
        due("tide 4", b.ahead(2, 100, 0), 4);
        due("earned", b.ahead(0, 2, 1), 9);
        due("earned", b.ahead(-7, 100, 1), 13);
        due("passed", b.ahead(99, 4, 2), 2);
        due("passed", b.ahead(99, 5, 2), 3);
        due("n", b.ahead(0, 101, 0), -2);
        due("n", b.ahead(0, -1, 1), -2);
        due("what", b.ahead(0, 1, 3), -2);
        due("what", b.ahead(0, 1, -1), -2);
        due("ship", b.ahead(3, 1, 0), -2);
        due("ship", b.ahead(-1, 1, 0), -2);
        due("no bar", new BarPilot().ahead(0, 0, 1), -2);
        due("nothing changed", b.count(6) + b.count(7) + b.count(11), 0);
        b.tide();
        due("earned in all", b.ahead(0, 2, 1), 13);

        promise = 16;
        b = withBar(QUEUE);
        due("tide", b.over(2, 0), 4);
        due("joke", b.over(2, 1), 0);
        b.tide();
        due("tide", b.over(2, 0), 4);
        due("passed", b.over(0, 0), NONE);
        due("what", b.over(1, 2), NONE);
        due("what", b.over(1, -1), NONE);
        due("ship", b.over(3, 0), NONE);
        due("ship", b.over(-1, 0), NONE);
        b = withBarAndRule("bar 9 1;joke 1 1 1;ship 1 1;knows 0 0", "tell 1 if tide>=100");
        due("tide 100 is the 101st", b.over(0, 0), -2);
        due("tide 100 is the 101st", b.over(0, 1), -2);
        b.tide();
        due("the 100th", b.over(0, 0), 100);

        promise = 17;
        b = withBar("bar 1 1;joke 1 2 3;joke 1 3 2;joke 4 3 3");
        due("itself", b.alike(1, 1), 3);
        due("set", b.alike(0, 1), 1);
        due("kin", b.alike(0, 2), 1);
        due("turn", b.alike(2, 1), 1);
        due("no joke", b.alike(0, 3), NONE);
        due("no joke", b.alike(-1, 0), NONE);

        promise = 18;
        b = withBar(TWO);
        due("all", b.fresh(), 7);
        b.say(0, 0);
        due("but those like it", b.fresh(), 4);
        due("no jokes", withBar("bar 1 1").fresh(), 0);
        due("no bar", new BarPilot().fresh(), NONE);

        promise = 19;
        due("no bar", new BarPilot().least(), NONE);
        due("no jokes", withBar("bar 1 1").least(), 0);
        due("like 3", withBar("bar 1 3;joke 0 0 0;joke 0 0 1").least(), 2);
        // With like 2: 000 to 009 and 010, 020 .. have two zeros; 011 has one alike with 0 0 0, but two with 5 1 1.
        due("like 2", withBar("bar 1 2;joke 0 0 0;joke 5 1 1").least(), 12);
        due("like 1", withBar("bar 1 1;joke 0 0 0;joke 1 1 2").least(), 221);
    }

    private static void rows() {
        promise = 20;
        // Ship 0 passes with 0 on the first tide, and 1 is like 0: ship 1 must wait till it fades, on tide 2.
        String bar = "bar 2 2;joke 1 1 1;joke 1 1 2;ship 5 9;ship 6 9;knows 0 0;knows 1 1";
        BarPilot b = withBar(bar);
        due("too short", b.row(1, 2, 0), -2);
        due("too short", b.row(1, 2, 1), -2);
        due("tide", b.row(1, 4, 0), 2);
        due("first", b.row(1, 4, 1), NONE);
        due("second", b.row(1, 4, 2), NONE);
        due("third", b.row(1, 4, 3), 1);
        due("past", b.row(1, 4, 4), NONE);
        due("no such", b.row(1, 3, 4), -2);
        due("at once", b.row(0, 1, 1), 0);
        due("n", b.row(0, 0, 0), -3);
        due("n", b.row(0, 5, 0), -3);
        due("what", b.row(0, 1, 5), -3);
        due("what", b.row(0, 1, -1), -3);
        due("ship", b.row(2, 1, 0), -3);
        due("ship", b.row(-1, 1, 0), -3);
        b.tide();
        due("passed", b.row(0, 1, 0), -3);
        due("tide", b.row(1, 2, 0), 2);
        // Ship 1 tells 0 each tide but when 1 was heard a tide ago: ship 0 tells 1 to hold it, so that 0 fades.
        b = withBarAndRule("bar 2 2;joke 1 1 1;joke 2 2 2;ship 5 9;ship 6 9;ship 1 1;knows 0 0;knows 0 1;knows 1 0"
                + ";knows 2 0;knows 2 1", "tell 1 if ship=1 and joke=0");
        b.say(2, 0);
        due("least new", b.row(0, 1, 1), 1);
        b = withBarAndRule("bar 1 1;joke 1 1 1;joke 2 2 2;ship 5 9;ship 6 9;knows 0 0;knows 0 1;knows 1 0",
                "tell 1");
        due("others by the rule come behind", b.row(0, 1, 1), 0);
        b = withBarAndRule("bar 1 3;joke 1 1 1;ship 5 9;ship 6 9;ship 7 9;knows 0 0;knows 1 0;knows 2 0",
                "tell 1 if ship<2");
        due("others by the rule come ahead", b.row(2, 1, 0), -2);
        due("once they are past", b.row(2, 3, 0), 2);
        due("none ahead of 0", b.row(2, 3, 1), NONE);
        // Ship 1 tells 0 over and over, ship 4 tells 3, so that neither 0 nor 1 (like 3) gets new. But if ship 0 tells
        // 1, ship 1 tells 2 behind it, is past, and 0 fades.
        b = withBarAndRule("bar 2 2;joke 0 0 0;joke 1 1 2;joke 3 3 2;joke 1 1 1;ship 9 9;ship 9 9;ship 9 9;ship 9 9"
                + ";ship 9 9;knows 0 0;knows 0 1;knows 1 0;knows 1 2;knows 2 0;knows 3 3;knows 4 3",
                "tell 5 if joke=2 and like=1;tell 3 if joke=0 and ship=1;tell 3 if joke=3 and ship=4");
        b.say(2, 0);
        b.say(3, 3);
        due("too short", b.row(0, 2, 0), -2);
        due("tide", b.row(0, 3, 0), 2);
        due("waits", b.row(0, 3, 1), NONE);
        due("makes ship 1 pass", b.row(0, 3, 2), 1);
        due("passes", b.row(0, 3, 3), 0);
        b.tide();
        due("tide", b.row(0, 2, 0), 2);
        due("makes ship 1 pass", b.row(0, 2, 1), 1);
        due("passes", b.row(0, 2, 2), 0);
    }

    private static void advice() {
        promise = 21;
        // Ship 1 waits for joke 0 to fade, which is too late for its cargo.
        String bar = "bar 9 3;joke 1 1 1;joke 2 2 2;ship 5 9;ship 6 3;knows 0 0;knows 1 0";
        BarPilot b = withBar(bar);
        due("nothing heard", b.forget(60, 0), NONE);
        due("earned", b.forget(60, 1), 5);
        b.tide();
        due("joke 0", b.forget(1, 0), 0);
        due("earned in all", b.forget(1, 1), 11);
        due("n", b.forget(0, 0), -2);
        due("n", b.forget(61, 0), -2);
        due("what", b.forget(1, 2), -2);
        due("what", b.forget(1, -1), -2);
        due("no bar", new BarPilot().forget(1, 0), -2);
        due("nothing changed", b.count(9), 1);
        b.tide();
        b.tide();
        b.tide();
        due("too late, none of equals", b.forget(5, 0), NONE);

        promise = 22;
        bar = "bar 9 3;joke 1 1 1;joke 2 2 2;ship 5 9;ship 6 3;ship 7 9;knows 0 0;knows 1 0;knows 2 0;knows 2 1";
        b = withBar(bar);
        // Ship 0 tells 0, ship 2 tells 1, ship 1 has nothing; with 2 it has 1 and then 2 has nothing: 5 + 6 < 5 + 7.
        due("one", b.barter(3, 0), NONE);
        due("other", b.barter(3, 1), NONE);
        due("earned", b.barter(3, 2), 12);
        b = withBar("bar 9 3;joke 1 1 1;joke 2 2 2;joke 3 3 3;ship 5 9;ship 6 3;ship 7 9;knows 0 0;knows 1 0;knows 2 1"
                + ";knows 2 2");
        due("one", b.barter(3, 0), 1);
        due("other", b.barter(3, 1), 2);
        due("earned", b.barter(3, 2), 18);
        due("n", b.barter(0, 0), -2);
        due("n", b.barter(61, 0), -2);
        due("what", b.barter(1, 3), -2);
        due("what", b.barter(1, -1), -2);
        due("no bar", new BarPilot().barter(1, 0), -2);
        due("nothing changed", b.ship(1, 2), 1);
        b.tide();
        due("those past trade nothing", b.barter(3, 0), NONE);
        due("earned in all", b.barter(3, 2), 12);

        promise = 23;
        b = withBar("bar 9 3;joke 1 1 1;joke 2 2 2;joke 3 3 3;ship 5 9;ship 6 3;ship 7 9;knows 0 0;knows 1 0;knows 2 0");
        due("two more", b.school(1, 0), 2);
        due("1 and 2", b.school(1, 1), 6);
        due("one more in ten tides", b.school(10, 0), 1);
        due("joke 1", b.school(10, 1), 2);
        due("none in nineteen", b.school(19, 0), 0);
        due("none in nineteen", b.school(19, 1), 0);
        due("n", b.school(0, 0), NONE);
        due("n", b.school(61, 0), NONE);
        due("what", b.school(1, 2), NONE);
        due("what", b.school(1, -1), NONE);
        due("no bar", new BarPilot().school(1, 0), NONE);
        b = withBar("bar 9 3;joke 1 1 1;ship 5 9;ship 6 3");
        due("by none", b.school(9, 0), -2);
        due("by none", b.school(9, 1), -2);
        due("the one joke", b.school(10, 1), 1);
        due("no ships", withBar("bar 1 1").school(1, 0), 0);
        // 0 is told on tide 0 alone, 1 on tide 1, 2 on any: 0 and 1 would do, but 2 alone does.
        b = withBarAndRule("bar 1 3;joke 1 1 1;joke 2 2 2;joke 3 3 3;ship 5 9;ship 6 3", "tell 1 if joke=2 or joke=tide");
        due("fewest", b.school(2, 0), 1);
        due("not the least as bits", b.school(2, 1), 4);
    }

    private static void oldOnes() {
        promise = 24;
        BarPilot b = withBarAndRule(TWO, "tell 1");
        // By none: {} 2 ships; {0} {1} {2} one, the first two for joke 2; {0 1} one; {0 2} {1 2} {0 1 2} none.
        due("two", b.old(NONE, 1, 2, 0), 1);
        due("one", b.old(NONE, 1, 1, 0), 4);
        due("the least", b.old(NONE, 1, 1, 1), 1);
        due("in all", b.old(NONE, 1, 1, 2), 0);
        due("none", b.old(NONE, 1, 0, 0), 3);
        due("the least", b.old(NONE, 1, 0, 1), 5);
        due("in all", b.old(NONE, 1, 0, 2), 4);
        // After FADES - 1 = 2 tides they are forgotten, and both pass on the third unless one passed with 0 or 1 late.
        due("by then", b.old(NONE, 3, 0, 0), 0);
        due("no such", b.old(NONE, 3, 0, 1), -2);
        due("no such", b.old(NONE, 3, 0, 2), 0);
        due("many", b.old(NONE, 1, 5, 0), 0);
        // By the rule each tells its least: ship 1 tells 1 and is not past if 0 or 1 was heard, also from ship 0.
        due("rule", b.old(0, 1, 2, 0), 0);
        due("rule", b.old(0, 1, 1, 0), 2);
        due("rule", b.old(0, 1, 1, 1), 0);
        due("no rule", b.old(1, 1, 1, 0), -3);
        due("no rule", b.old(-2, 1, 1, 0), -3);
        due("n", b.old(0, 0, 1, 0), -3);
        due("n", b.old(0, 61, 1, 0), -3);
        due("many", b.old(0, 1, 6, 0), -3);
        due("many", b.old(0, 1, -1, 0), -3);
        due("what", b.old(0, 1, 1, 3), -3);
        due("what", b.old(0, 1, 1, -1), -3);
        due("no bar", new BarPilot().old(NONE, 1, 0, 0), -3);
        b.coin(0, 2);
        b.tide();
        due("as the text told it", b.old(NONE, 1, 1, 0), 4);
        due("fades 1: forgotten at once", withBar("bar 1 1;joke 1 1 1;ship 1 1;knows 0 0").old(NONE, 1, 1, 0), 2);
        due("fades 2: not yet", withBar("bar 2 1;joke 1 1 1;ship 1 1;knows 0 0").old(NONE, 1, 1, 0), 1);
        due("since 1", withBarAndRule("bar 1 1;joke 1 1 1;ship 1 1;knows 0 0", "tell since-2").old(0, 1, 1, 1), 0);
    }

    private static void games() {
        promise = 25;
        BarPilot b = withBar(TWO);
        due("one turn", b.game(0, 1, 1, 0), 50);
        due("joke", b.game(0, 1, 1, 1), 0);
        due("two", b.game(0, 1, 2, 0), 30);
        due("blocks", b.game(1, 0, 2, 0), 20);
        due("blocks", b.game(1, 0, 2, 1), 1);
        due("like itself", b.game(0, 0, 1, 0), -1000);
        due("no ship", b.game(0, 2, 1, 0), -1000);
        due("no ship", b.game(-1, 0, 1, 0), -1000);
        due("n", b.game(0, 1, 0, 0), -1000);
        due("n", b.game(0, 1, 4, 0), -1000);
        due("what", b.game(0, 1, 1, 2), -1000);
        due("what", b.game(0, 1, 1, -1), -1000);
        // Ship 0 keeps till tide 0: it is worth nothing on the third turn, which is tide 2.
        b = withBar("bar 1 1;joke 1 1 1;ship 9 0;ship 4 9;knows 1 0");
        due("knows none", b.game(0, 1, 1, 1), NONE);
        due("knows none", b.game(0, 1, 3, 0), -4);
        // Both have the same joke; fades 2: told on tide 0, it is still remembered on tide 1 and new on tide 2.
        b = withBar("bar 2 1;joke 1 1 1;ship 9 9;ship 4 9;knows 0 0;knows 1 0");
        due("first come", b.game(0, 1, 3, 0), 9);
        due("joke", b.game(0, 1, 3, 1), 0);
        b = withBar("bar 1 1;joke 1 1 1;ship 0 9;ship 4 9;knows 0 0;knows 1 0");
        due("none of equals", b.game(0, 1, 1, 1), NONE);
        due("by turns a tide each", b.game(0, 1, 2, 0), -4);
        b.say(0, 0);
        due("passed", b.game(0, 1, 1, 0), -1000);
        due("passed", b.game(1, 0, 1, 0), -1000);
    }

    private static void sharing() {
        promise = 26;
        BarPilot b = withBar("bar 1 3;joke 1 1 1;joke 2 2 2;joke 3 3 3;ship 1 0;ship 1 0;ship 1 0;ship 9 0"
                + ";knows 0 0;knows 1 1;knows 2 2");
        due("nobody", b.parts(100, 0), 0);
        b.tide();
        due("34", b.parts(100, 0), 34);
        due("33", b.parts(100, 1), 33);
        due("33", b.parts(100, 2), 33);
        due("two left", b.parts(101, 1), 34);
        due("two left", b.parts(101, 2), 33);
        due("who waits", b.parts(100, 3), 0);
        due("purse 0", b.parts(0, 0), 0);
        due("purse", b.parts(9999, 2), 3333);
        due("purse", b.parts(10000, 0), NONE);
        due("purse", b.parts(-1, 0), NONE);
        due("ship", b.parts(1, 4), NONE);
        due("ship", b.parts(1, -1), NONE);
        // 10 * 7 / 12 = 5 rest 10, 10 * 5 / 12 = 4 rest 2; cargo counts though nothing was earned.
        b = withBarAndRule("bar 1 3;joke 1 1 1;joke 2 2 2;ship 5 0;ship 7 0;knows 0 0;knows 1 1", "tell tide");
        b.tide();
        b.tide();
        due("earned", b.count(7), 0);
        due("lost less", b.parts(10, 0), 4);
        due("lost more", b.parts(10, 1), 6);
        b = withBar("bar 1 3;joke 1 1 1;ship 0 0;knows 0 0");
        b.tide();
        due("cargo 0 in all", b.parts(10, 0), 0);

        promise = 27;
        b = withBar("bar 2 3;joke 1 1 1;ship 9 0;ship 4 2;ship 2 3;ship 3 3;ship 1 1;knows 1 0;knows 2 0;knows 4 0");
        due("never, by numbers", b.order(0), 3);
        due("tide 0", b.order(1), 0);
        due("tide 2", b.order(2), 1);
        due("never, by numbers", b.order(3), 4);
        due("tide 4", b.order(4), 2);
        due("ship", b.order(5), NONE);
        due("ship", b.order(-1), NONE);
        b.say(4, 0);
        due("passed now", b.order(4), 0);
        due("behind it", b.order(1), 1);
        b.coin(0, 0);
        b.dull(0);
        due("on the same tide by numbers", b.order(0), 0);
        due("on the same tide by numbers", b.order(4), 1);
    }

    private static void notes() {
        promise = 28;
        BarPilot b = withBar(TWO);
        due("first", b.note(0, 0, 0), 1);
        due("none", b.note(60, 1, NONE), 2);
        due("n", b.note(61, 0, 0), -2);
        due("n", b.note(-2, 0, 0), -2);
        due("ship", b.note(0, 2, 0), -2);
        due("ship", b.note(0, -1, 0), -2);
        due("joke", b.note(0, 0, 3), -2);
        due("joke", b.note(0, 0, -2), -2);
        due("count", b.count(10), 2);
        for (int i = 3; i <= 10; i++) {
            due("more", b.note(i, 0, NONE), i);
        }
        due("11", b.note(0, 0, NONE), -2);
        due("count", b.count(10), 10);
        due("away", b.note(NONE, 99, 99), 0);
        due("count", b.count(10), 0);
        due("no bar", new BarPilot().note(0, 0, NONE), -2);

        promise = 29;
        b = withBar(TWO);
        readRule(b, "tell 1");
        readRule(b, "tell joke");
        readRule(b, "tell 1 if tide>0");
        // On tide 0 ship 1 tells 2 by none and by rule 1, 1 by rule 0, none by rule 2.
        due("all", b.ruled(0), 4);
        due("none is the first", b.ruled(1), NONE);
        b.note(0, 1, 2);
        due("two", b.ruled(0), 2);
        due("none", b.ruled(1), NONE);
        // Ship 0 knows joke 0 alone, for which rule 1 says 0: it tells none.
        b.note(0, 0, NONE);
        due("one", b.ruled(0), 1);
        due("rule 1", b.ruled(1), 1);
        b.note(1, 1, NONE);
        due("who is past tells none", b.ruled(0), 1);
        b.note(1, 1, 1);
        due("none such", b.ruled(0), 0);
        due("none such", b.ruled(1), -2);
        b.note(NONE, 0, 0);
        b.note(1, 1, 1);
        due("rules 0 and 2", b.ruled(0), 2);
        due("rule 0", b.ruled(1), 0);
        b.tide();
        b.force(1);
        due("from the begin on", b.ruled(1), 0);
        due("what", b.ruled(2), -3);
        due("what", b.ruled(-1), -3);
        due("no bar", new BarPilot().ruled(0), -3);

        promise = 30;
        b.note(NONE, 0, 0);
        // Tide 0: ship 0 tells 0 0 none none; ship 1 tells 2 1 2 none.
        due("tide 0: both part alike", b.look(0, 0), 0);
        due("tide 0", b.look(0, 1), 2);
        b.note(0, 0, 0);
        due("ship 1 parts none and rule 0", b.look(0, 0), 1);
        due("alone each", b.look(0, 1), 1);
        due("n", b.look(61, 0), NONE);
        due("n", b.look(-1, 0), NONE);
        due("what", b.look(0, 2), NONE);
        due("what", b.look(0, -1), NONE);
        due("no bar", new BarPilot().look(0, 0), NONE);
        b.note(0, 0, NONE);
        due("no rule is so", b.look(0, 0), -2);
        due("no rule is so", b.look(0, 1), -2);
        due("no ships", withBar("bar 1 1").look(0, 0), -2);
        due("none alone", withBar(TWO).look(60, 1), 1);
    }

    private static void parrotYears() {
        promise = 31;
        BarPilot b = new BarPilot();
        due("at first", b.seed(2147483647), 0);
        due("was", b.seed(0), 2147483647);
        due("was", b.seed(5), 0);
        due("below 0", b.seed(-1), NONE);
        due("stays", b.count(12), 5);

        promise = 32;
        // x from 0: 12345, 1406932606, ...: draws 0, 21468, ..., so below p if p > 0; 21468 mod 2 = 0: joke 0.
        b = withBar("bar 9 3;joke 1 1 1;joke 2 2 2;ship 5 9;ship 6 9;knows 0 0;knows 1 1");
        due("p 0: no parrot", b.parrots(1, 1, 0, 0), 11);
        due("p 0: no parrot", b.parrots(10, 1, 0, 1), 20);
        due("p 1: joke 0 is heard", b.parrots(1, 1, 1, 0), 6);
        due("passed", b.parrots(1, 1, 1, 1), 1);
        // The second time: x 654583775, draw 9988, 88 is not below 1: no parrot; both pass.
        due("x goes on", b.parrots(2, 1, 1, 0), 17);
        due("p 89: x 1449466924, draw 22117, joke 1", b.parrots(2, 1, 89, 0), 11);
        due("x as it was", b.count(12), 0);
        b.tide();
        due("in these alone", b.parrots(3, 2, 100, 0), 0);
        due("at the end all", b.parrots(3, 2, 100, 1), 6);
        due("no jokes", withBar("bar 1 1;ship 1 1").parrots(1, 1, 100, 1), 0);
        due("m", b.parrots(0, 1, 1, 0), NONE);
        due("m", b.parrots(11, 1, 1, 0), NONE);
        due("n", b.parrots(1, 0, 1, 0), NONE);
        due("n", b.parrots(1, 61, 1, 0), NONE);
        due("p", b.parrots(1, 1, -1, 0), NONE);
        due("p", b.parrots(1, 1, 101, 0), NONE);
        due("what", b.parrots(1, 1, 1, 2), NONE);
        due("what", b.parrots(1, 1, 1, -1), NONE);
        due("no bar", new BarPilot().parrots(1, 1, 1, 0), NONE);
    }

    private static void counts() {
        promise = 33;
        BarPilot b = withBarAndRule(TWO + ";ship 3 3", "tell 1");
        b.tide();
        b.note(1, 1, 1);
        b.seed(9);
        b.feed(1, 2, 3, 4, 5);
        // On the tide ship 0 passes with 0; ship 1 tells 1, which is like it; ship 2 knows none.
        int[] want = {3, 2, 3, 3, 1, 0, 1, 50, 6, 3, 1, 1, 9, 20};
        for (int what = 0; what < want.length; what++) {
            due("count(" + what + ")", b.count(what), want[what]);
        }
        due("count(14)", b.count(14), NONE);
        due("count(-1)", b.count(-1), NONE);
    }

    private static void images() {
        promise = 34;
        BarPilot b = new BarPilot();
        due("no bar", b.image(3), 0);
        due("k", b.image(4), NONE);
        due("k", b.image(-1), NONE);
        put(b, TWO);
        b.bar();
        b.tide();
        b.tide();
        due("tide", b.image(0), 2);

        promise = 35;
        b.note(0, 0, 0);
        b.seed(8);
        readRule(b, "tell 1");
        b.force(0);
        b.tide();
        b.undo();
        b.undo();
        b.undo();
        b.feed(0, 0, 0, 0, 0);
        due("never made", b.back(1), NONE);
        due("k", b.back(4), NONE);
        due("k", b.back(-1), NONE);
        due("nothing happened", b.count(6), 0);
        due("back", b.back(0), 2);
        int[] want = {3, 2, 3, 2, 1, NONE, 2, 70, 0, 5, 0, 2, 0, 20};
        for (int what = 0; what < want.length; what++) {
            due("count(" + what + ")", b.count(what), want[what]);
        }
        due("undo goes on", b.undo(), 1);
        due("undo goes on", b.undo(), 0);
        due("all wait", b.count(8), 3);
        b.coin(0, 1);
        b.coin(0, 2);
        b.coin(1, 0);
        due("the image stays", b.back(0), 2);
        due("what was undone in between", b.undo(), 1);
        due("tide", b.count(6), 1);
        due("knows", b.ship(0, 2), 1);
        due("and on", b.undo(), 0);
        due("tide", b.count(6), 0);
        due("knows", b.ship(0, 2), 1);
        due("the image stays", b.back(0), 2);
        due("none waits", b.count(8), 0);
        due("another", readBar(b, "bar 1 1"), -2 - 1);
        b.end(0);
        due("another bar", readBar(b, "bar 9 1;ship 1 1"), 1);
        due("made anew", b.image(0), 0);
        due("to no bar", b.back(3), 0);
        due("no bar", b.fresh(), NONE);
        due("no acts", b.undo(), -2);
        due("to the other", b.back(0), 0);
        due("its fades", b.count(0), 9);
        due("the rule stays", b.count(4), 1);
    }

    public static void main(String[] args) {
        newObject();
        tape();
        bars();
        rules();
        ruleMeanings();
        jokesAndShips();
        tides();
        handActs();
        undoing();
        lookingAhead();
        rows();
        advice();
        oldOnes();
        games();
        sharing();
        notes();
        parrotYears();
        counts();
        images();
        System.out.println(checks + " checks, " + wrong + " not as due");
        if (wrong != 0) {
            System.exit(1);
        }
    }
}
