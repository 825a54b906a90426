/** Parts, order, notes, parrots, counts and images: promises 26 to 35, and the terms that they use. */
final class SentencesOfNotes extends Sentences {

    static void tests() {
        parts();
        order();
        note();
        ruled();
        look();
        draws();
        parrots();
        counts();
        images();
        back();
    }

    private static void parts() {
        test(26, "PARTS of a PURSE (0 to 9999) among SHIPS by CARGO of those that have PASSED:", () -> {
            BarPilot b = open("bar 1 3;joke 1 1 1;joke 2 2 2;joke 3 3 3;ship 1 0;ship 3 0;ship 6 9;ship 9 9"
                    + ";knows 0 0;knows 1 1;knows 2 2",
                    "tell 1 if tide=1");
            due("nobody yet", b.parts(100, 0), 0);
            tides(b, 2);
            due("EARNED", b.count(7), 6);
            due("purse -1", b.parts(-1, 0), NONE);
            due("purse 0", b.parts(0, 2), 0);
            due("by CARGO, though it EARNED nothing", b.parts(100, 0), 10);
            due("by CARGO, though it EARNED nothing", b.parts(100, 1), 30);
            due("by CARGO", b.parts(100, 2), 60);
            due("who WAITS", b.parts(100, 3), 0);
            due("purse 9999", b.parts(9999, 0), 1000);
            due("purse 9999", b.parts(9999, 1), 3000);
            due("purse 9999", b.parts(9999, 2), 5999);
            due("purse 10000", b.parts(10000, 2), NONE);
        });
        test(26, "each the part downwards; what is left, one each, to those whose part lost most by that, of "
                + "several the least first "
                + "(nothing, if that is 0 in all).", () -> {
            BarPilot b = open("bar 1 3;joke 0 0 0;joke 1 1 1;joke 2 2 2;joke 3 3 3;joke 4 4 4;ship 99 0;ship 99 0"
                    + ";ship 98 0;ship 99 0"
                    + ";ship 99 0;knows 0 0;knows 1 1;knows 2 2;knows 3 3;knows 4 4");
            b.tide();
            // 9999 * 99 / 494 = 2003, 419 lost; 9999 * 98 / 494 = 1983, 300 lost; 4 are left.
            int[] all = {2004, 2004, 1983, 2004, 2004};
            // 7 * 99 / 494 = 1, 199 lost; 7 * 98 / 494 = 1, 192 lost; 2 are left.
            int[] seven = {2, 2, 1, 1, 1};
            // 4 * 99 / 494 = 0, 396 lost; 4 * 98 / 494 = 0, 392 lost; 4 are left.
            int[] four = {1, 1, 0, 1, 1};
            for (int ship = 0; ship < 5; ship++) {
                due("parts(9999, " + ship + ")", b.parts(9999, ship), all[ship]);
                due("parts(7, " + ship + ")", b.parts(7, ship), seven[ship]);
                due("parts(4, " + ship + ")", b.parts(4, ship), four[ship]);
                due("parts(1, " + ship + ")", b.parts(1, ship), ship == 0 ? 1 : 0);
                due("parts(494, " + ship + ")", b.parts(494, ship), ship == 2 ? 98 : 99);
            }
            BarPilot lost = open("bar 1 3;joke 1 1 1;joke 2 2 2;ship 5 0;ship 7 0;knows 0 0;knows 1 1");
            lost.tide();
            due("10 * 5 / 12 lost 2", lost.parts(10, 0), 4);
            due("10 * 7 / 12 lost 10", lost.parts(10, 1), 6);
            BarPilot none = open("bar 1 3;joke 1 1 1;joke 2 2 2;ship 0 0;ship 0 0;ship 9 9;knows 0 0;knows 1 1");
            none.tide();
            due("0 in all", none.parts(10, 0), 0);
            due("0 in all", none.parts(10, 1), 0);
            BarPilot zero = open("bar 1 3;joke 1 1 1;joke 2 2 2;joke 3 3 3;ship 0 0;ship 1 0;ship 1 0;knows 0 0"
                    + ";knows 1 1;knows 2 2");
            zero.tide();
            due("CARGO 0 has nothing", zero.parts(1, 0), 0);
            due("the least of the others", zero.parts(1, 1), 1);
        });
        test(26, "PARTS; NONE without these.", () -> {
            BarPilot b = open(TWO);
            b.tide();
            due("parts(7, 0)", b.parts(7, 0), 5);
            due("purse -1", b.parts(-1, 0), NONE);
            due("purse least", b.parts(Integer.MIN_VALUE, 0), NONE);
            due("purse 10000", b.parts(10000, 0), NONE);
            due("ship 2", b.parts(1, 2), NONE);
            due("ship -1", b.parts(1, -1), NONE);
            due("no BAR", new BarPilot().parts(1, 0), NONE);
        });
    }

    private static void order() {
        test(27, "ORDER of a SHIP: how many others have PASSED, or are OVER, in 100 TIDES, ahead of it, "
                + "or on the same TIDE and have a less number (who never is, behind all who are, by numbers).", () -> {
            BarPilot b = open("bar 1 3;joke 1 1 1;ship 1 1;ship 1 1;ship 1 1;knows 0 0;knows 1 0;knows 2 0",
                    "tell 1 if ship=1 and tide=100 or ship=2 and tide=99");
            due("on the 100th TIDE", b.order(2), 0);
            due("never, by numbers", b.order(0), 1);
            due("on the 101st: never in these, by numbers", b.order(1), 2);
            b.tide();
            due("in 100 from TIDE 1 on", b.order(2), 0);
            due("in 100 from TIDE 1 on", b.order(1), 1);
            due("never", b.order(0), 2);
            BarPilot same = open("bar 9 3;joke 1 1 1;joke 2 2 2;joke 3 3 3;ship 1 1;ship 1 1;ship 1 1;ship 1 1;ship 1 1"
                    + ";knows 1 0;knows 3 1;knows 4 2");
            int[] now = {3, 0, 4, 1, 2};
            for (int ship = 0; ship < 5; ship++) {
                due("on the same TIDE by numbers: " + ship, same.order(ship), now[ship]);
            }
            same.say(4, 2);
            due("on this TIDE, past already", same.order(4), 2);
            same.tide();
            same.coin(0, 2);
            same.dull(2);
            int[] then = {3, 0, 4, 1, 2};
            for (int ship = 0; ship < 5; ship++) {
                due("past ones, then the one that is OVER: " + ship, same.order(ship), then[ship]);
            }
            BarPilot late = open("bar 9 3;joke 1 1 1;joke 2 2 2;ship 1 1;ship 1 1;knows 0 0;knows 1 1");
            late.say(1, 1);
            late.force(NONE);
            due("ship 0 on the same TIDE", late.order(0), 0);
            due("ship 1 on the same TIDE", late.order(1), 1);
        });
        test(27, "ORDER; NONE without that SHIP.", () -> {
            BarPilot b = open(QUEUE);
            due("order(2)", b.order(2), 2);
            due("ship 3", b.order(3), NONE);
            due("ship -1", b.order(-1), NONE);
            due("one SHIP", open("bar 1 1;ship 1 1").order(0), 0);
            due("no BAR", new BarPilot().order(0), NONE);
        });
    }

    private static void note() {
        test(28, "NOTES 0 to 9, told: on the n-th TIDE of all (0 to 60) a SHIP TOLD a JOKE, or none (NONE).", () -> {
            BarPilot b = open("bar 9 3;joke 1 1 1;joke 2 2 2;ship 1 1;ship 1 1;knows 0 0;knows 0 1"
                    + ";knows 1 1", "tell 1 if tide=60");
            for (int i = 1; i <= 10; i++) {
                due("note", b.note(i, 0, NONE), i);
            }
            due("an eleventh", b.note(0, 0, NONE), -2);
            b.note(NONE, 0, 0);
            b.note(60, 0, 0);
            due("on TIDE 60 by RULE 0 alone", b.ruled(1), 0);
            due("on TIDE 60 by RULE 0 alone", b.ruled(0), 1);
            b.note(60, 1, 1);
            due("another on the same TIDE", b.ruled(0), 1);
            b.note(59, 0, NONE);
            due("none on TIDE 59", b.ruled(0), 1);
            b.note(0, 0, NONE);
            due("none on TIDE 0", b.ruled(0), 1);
            b.note(60, 0, 1);
            due("two that can't both be so", b.ruled(0), 0);
            b.note(NONE, 0, 0);
            for (int i = 0; i < 9; i++) {
                b.note(i, 1, NONE);
            }
            due("nine", b.ruled(0), 1);
            b.note(60, 0, 1);
            due("the tenth counts, too", b.ruled(0), 0);
            due("the tenth counts, too", b.look(0, 0), -2);
            due("n 61", b.note(61, 0, 0), -2);
            due("n -2", b.note(-2, 0, 0), -2);
        });
        test(28, "A NOTE (n NONE: there are none then, 0): how many;", () -> {
            BarPilot b = open(TWO);
            due("first", b.note(0, 0, 0), 1);
            due("the same again", b.note(0, 0, 0), 2);
            due("none then", b.note(NONE, 0, 0), 0);
            due("count(10)", b.count(10), 0);
            b.note(5, 0, 0);
            due("whatever else is given", b.note(NONE, 99, -99), 0);
            due("count(10)", b.count(10), 0);
            due("all RULES are so", b.ruled(0), 1);
            due("no BAR", new BarPilot().note(NONE, 0, 0), 0);
            for (int i = 1; i <= 10; i++) {
                b.note(i, 0, NONE);
            }
            due("of ten", b.note(NONE, 0, 0), 0);
            due("first", b.note(0, 0, NONE), 1);
        });
        test(28, "-2, and nothing happens, without these (joke NONE: none), or if there are 10.", () -> {
            BarPilot b = open(TWO);
            due("joke NONE", b.note(0, 1, NONE), 1);
            due("n 60", b.note(60, 1, 2), 2);
            nothingHappens(b, () -> {
                due("n 61", b.note(61, 0, 0), -2);
                due("n -2", b.note(-2, 0, 0), -2);
                due("ship 2", b.note(0, 2, 0), -2);
                due("ship -1", b.note(0, -1, 0), -2);
                due("joke 3", b.note(0, 0, 3), -2);
                due("joke -2", b.note(0, 0, -2), -2);
            });
            for (int i = 3; i <= 10; i++) {
                due("more", b.note(0, 0, 0), i);
            }
            nothingHappens(b, () -> due("there are 10", b.note(0, 0, 0), -2));
            BarPilot none = new BarPilot();
            nothingHappens(none, () -> due("no BAR", none.note(0, 0, NONE), -2));
        });
    }

    private static void ruled() {
        test(29, "RULED: which of the RULES, and of none, so that from the begin on, all as the text told it, all "
                + "NOTES are so: how many;", () -> {
            BarPilot b = open(TWO, "tell 1", "tell joke", "tell 1 if tide>0", "tell 9", "tell 1 if 2<1", "tell 3-joke");
            due("without NOTES all, and none", b.ruled(0), 7);
            // On TIDE 0 ship 1 tells 2 by none and by RULE 1, 1 by RULES 0, 3 and 5, none by RULES 2 and 4.
            b.note(0, 1, 2);
            due("2", b.ruled(0), 2);
            b.note(NONE, 0, 0);
            b.note(0, 1, 1);
            due("1", b.ruled(0), 3);
            b.note(NONE, 0, 0);
            b.note(0, 1, NONE);
            due("none", b.ruled(0), 2);
            b.note(1, 1, 1);
            due("all NOTES", b.ruled(0), 1);
            due("RULE 2", b.ruled(1), 2);
            b.force(1);
            b.coin(0, 2);
            tides(b, 3);
            due("from the begin on, as the text told it", b.ruled(0), 1);
            due("RULE 2", b.ruled(1), 2);
            b.note(2, 0, NONE);
            due("who has PASSED tells none", b.ruled(0), 1);
            b.note(1, 0, 0);
            due("so it was on TIDE 1", b.ruled(0), 1);
            b.note(0, 0, 0);
            due("not on TIDE 0", b.ruled(0), 0);
        });
        test(29, "the first (none ahead of 0, told as NONE).", () -> {
            BarPilot b = open(TWO, "tell 1", "tell joke+1");
            due("none", b.ruled(1), NONE);
            due("there are more", b.ruled(0), 3);
            b.note(0, 1, 1);
            due("RULE 0", b.ruled(1), 0);
            b.note(NONE, 0, 0);
            b.note(0, 1, 2);
            due("none, ahead of RULE 1", b.ruled(1), NONE);
            due("both", b.ruled(0), 2);
        });
        test(29, "RULED what 0: how many, 1: the first (NONE: none; -2: there is none such).", () -> {
            BarPilot b = open(TWO);
            due("what 0", b.ruled(0), 1);
            due("what 1", b.ruled(1), NONE);
            b.note(0, 0, 2);
            due("none such", b.ruled(0), 0);
            due("none such", b.ruled(1), -2);
            due("no SHIPS", open("bar 1 1").ruled(0), 1);
        });
        test(29, "-3 for others, or without a BAR.", () -> {
            BarPilot b = open(TWO);
            due("what -1", b.ruled(-1), -3);
            due("what 2", b.ruled(2), -3);
            due("no BAR", new BarPilot().ruled(0), -3);
            due("no BAR", new BarPilot().ruled(1), -3);
        });
    }

    private static void look() {
        test(30, "LOOK for the n-th TIDE: the SHIP by what it TELLS on it these part best: the most alike are fewest, "
                + "of several the least; how many.", () -> {
            // TIDE 0: ship 0 tells 0 by none, RULES 0 and 3, else none; ship 1 tells 2 by none and RULE 1, 1 by RULES 0 and 3,
            // none by RULE 2.
            BarPilot b = open(TWO, "tell 1", "tell joke", "tell 1 if tide>0", "tell 9");
            due("ship 1: two and two and one", b.look(0, 0), 1);
            due("the most alike", b.look(0, 1), 2);
            b.note(0, 1, 1);
            due("of RULES 0 and 3 both tell alike: the least", b.look(0, 0), 0);
            due("two alike", b.look(0, 1), 2);
            b.note(NONE, 0, 0);
            b.note(0, 1, 2);
            due("none and RULE 1: ship 0 parts them", b.look(0, 0), 0);
            due("each alone", b.look(0, 1), 1);
            b.note(0, 0, NONE);
            due("RULE 1 alone", b.look(0, 0), 0);
            due("RULE 1 alone", b.look(0, 1), 1);
            BarPilot last = open(TWO, "tell 0", "tell joke");
            last.note(0, 0, NONE);
            last.note(0, 1, 2);
            due("the last RULE alone", last.look(0, 1), 1);
            BarPilot none = open(TWO, "tell 0", "tell 1");
            none.note(0, 1, 2);
            due("none alone", none.look(0, 1), 1);
            BarPilot five = open("bar 1 1;joke 0 0 0;joke 1 1 1;ship 1 1;ship 1 1;ship 1 1;ship 1 1;ship 1 1"
                    + ";knows 0 0;knows 1 0"
                    + ";knows 2 0;knows 3 0;knows 4 0;knows 4 "
                    + "1", "tell 1 if joke=1", "tell 0", "tell 0", "tell 0", "tell 0", "tell 0");
            due("ship 4 alone tells by RULE 0", five.look(0, 0), 4);
            due("0 by none, 1 by RULE 0, none by five", five.look(0, 1), 5);
            BarPilot same = open("bar 1 1;joke 1 1 1;ship 1 1;ship 1 1;knows 1 0", "tell 0");
            due("ship 1 parts none and RULE 0 on TIDE 0", same.look(0, 0), 1);
            due("each alone", same.look(0, 1), 1);
            due("on TIDE 1 it is past by none: both tell none", same.look(1, 0), 0);
            due("both", same.look(1, 1), 2);
        });
        test(30, "LOOK (n 0 to 60) what 0: the SHIP, 1: how many; -2: no RULE is so, or there are no SHIPS.", () -> {
            BarPilot b = open("bar 1 1;joke 1 1 1;ship 1 1;ship 1 1"
                    + ";knows 1 0", "tell 1 if tide=60", "tell 1 if tide=61");
            b.note(0, 1, NONE);
            due("n -1", b.look(-1, 0), NONE);
            due("n 0", b.look(0, 0), 0);
            due("n 0", b.look(0, 1), 2);
            due("n 59", b.look(59, 1), 2);
            due("n 60", b.look(60, 0), 1);
            due("n 60", b.look(60, 1), 1);
            due("n 61", b.look(61, 0), NONE);
            b.note(0, 0, 0);
            due("no RULE is so", b.look(0, 0), -2);
            due("no RULE is so", b.look(60, 1), -2);
            due("no SHIPS", open("bar 1 1;joke 1 1 1").look(0, 0), -2);
            due("no SHIPS", open("bar 1 1;joke 1 1 1").look(0, 1), -2);
            BarPilot later = open("bar 1 1;joke 1 1 1;ship 1 1;ship 1 1"
                    + ";knows 1 0", "tell 1 if tide=60", "tell 1 if tide=61");
            later.note(60, 1, NONE);
            due("a NOTE behind the TIDE that is looked for counts", later.look(0, 0), 1);
            due("none and RULE 1", later.look(0, 1), 1);
        });
        test(30, "NONE without these, or a BAR.", () -> {
            BarPilot b = open(TWO);
            due("n -1", b.look(-1, 1), NONE);
            due("n 61", b.look(61, 1), NONE);
            due("what -1", b.look(0, -1), NONE);
            due("what 2", b.look(0, 2), NONE);
            due("no BAR", new BarPilot().look(0, 0), NONE);
            due("no BAR", new BarPilot().look(0, 1), NONE);
        });
    }

    // ---- parrots

    private static long next(long x) {
        return (x * 1103515245L + 12345L) % 2147483648L;
    }

    private static int seedWithDraw(int rest, int of) {
        long x = 1;
        while (next(x) / 65536 % of != rest) {
            x++;
        }
        return (int) x;
    }

    private static void draws() {
        test(31, "DRAWS: x (0 to 2147483647; 0 at first) becomes x * 1103515245 + 12345, of 2147483648 the rest"
                + "; a DRAW is x / 65536.", () -> {
            BarPilot b = open("bar 1 3;joke 1 1 1;ship 1 60;knows 0 0");
            due("x at first", b.count(12), 0);
            int[] seeds = {0, 1, 2, 65535, 65536, 1103515245, 1073741823, 1073741824, 2147483646, 2147483647};
            for (int seed : seeds) {
                b.seed(seed);
                due("x", b.count(12), seed);
                int rest = (int) (next(seed) / 65536 % 100);
                due("DRAW of x " + seed + " is not below p " + rest, b.parrots(1, 1, rest, 0), 1);
                due("DRAW of x " + seed + " is below p " + (rest + 1), b.parrots(1, 1, rest + 1, 0), 0);
            }
        });
        test(31, "x becomes a number: what it was;", () -> {
            BarPilot b = new BarPilot();
            due("at first", b.seed(2147483647), 0);
            due("was the greatest", b.seed(0), 2147483647);
            due("was 0", b.seed(5), 0);
            due("count(12)", b.count(12), 5);
        });
        test(31, "NONE, and nothing happens, below 0.", () -> {
            BarPilot b = new BarPilot();
            b.seed(5);
            nothingHappens(b, () -> {
                due("-1", b.seed(-1), NONE);
                due("least", b.seed(Integer.MIN_VALUE), NONE);
            });
            due("0 is not below", b.seed(0), 5);
        });
    }

    /** One ship with cargo 7 that knows the one joke: it is past on the first tide on which no parrot says it. */
    private static int[] oneShip(long seed, int m, int n, int p) {
        int[] sums = new int[2];
        long x = seed;
        for (int i = 0; i < m; i++) {
            boolean past = false;
            for (int tide = 0; tide < n; tide++) {
                x = next(x);
                boolean parrot = x / 65536 % 100 < p;
                x = parrot ? next(x) : x;
                if (!parrot && !past) {
                    past = true;
                    sums[0] += tide <= 3 ? 7 : 0;
                    sums[1]++;
                }
            }
        }
        return sums;
    }

    private static void parrots() {
        test(32, "PARROTS m times (1 to 10) n TIDES (1 to 60) from now on:", () -> {
            BarPilot b = open("bar 1 1;joke 1 1 1;ship 7 60;knows 0 0", "tell 1 if tide=59");
            due("m 0", b.parrots(0, 60, 0, 0), NONE);
            due("m 1", b.parrots(1, 60, 0, 0), 7);
            due("m 10", b.parrots(10, 60, 0, 0), 70);
            due("m 11", b.parrots(11, 60, 0, 0), NONE);
            due("n 0", b.parrots(1, 0, 0, 0), NONE);
            due("n 1", b.parrots(1, 1, 0, 1), 0);
            due("n 59", b.parrots(1, 59, 0, 1), 0);
            due("n 60", b.parrots(1, 60, 0, 1), 1);
            due("n 61", b.parrots(1, 61, 0, 1), NONE);
            b.tide();
            due("from now on", b.parrots(1, 59, 0, 1), 1);
        });
        test(32, "ahead of each a DRAW mod 100; is it below p (0 to 100), and are there JOKES, a DRAW mod how "
                + "many: he has heard that one on this TIDE:",
                () -> {
            BarPilot b = open("bar 1 3;joke 1 1 1;ship 7 3;knows 0 0");
            for (int rest : new int[] {0, 1, 50, 98, 99}) {
                b.seed(seedWithDraw(rest, 100));
                due("DRAW mod 100 is " + rest + ", p the same", b.parrots(1, 1, rest, 1), 1);
                due("DRAW mod 100 is " + rest + ", p one more", b.parrots(1, 1, rest + 1, 1), 0);
            }
            for (int seed = 0; seed < 10; seed++) {
                b.seed(77777777 * seed);
                for (int p = 10; p < 100; p += 30) {
                    int[] want = oneShip(77777777 * seed, 5, 10, p);
                    due("EARNED, p " + p, b.parrots(5, 10, p, 0), want[0]);
                    due("PASSED, p " + p, b.parrots(5, 10, p, 1), want[1]);
                }
            }
            BarPilot jokes = open("bar 2 3;joke 0 0 0;joke 1 1 1;joke 2 2 2;ship 1 9;ship 2 9;ship 4 9;knows 0 0"
                    + ";knows 1 1;knows 2 2");
            for (int joke = 0; joke < 3; joke++) {
                long x = 1;
                while (next(next(x)) / 65536 % 3 != joke) {
                    x++;
                }
                jokes.seed((int) x);
                due("joke " + joke + " is heard ahead of the TIDE", jokes.parrots(1, 1, 100, 0), 7 - (1 << joke));
            }
            due("p -1", b.parrots(1, 1, -1, 0), NONE);
            due("p 101", b.parrots(1, 1, 101, 0), NONE);
            due("no JOKES", open("bar 1 1;ship 1 1").parrots(10, 60, 100, 1), 0);
            BarPilot never = open("bar 1 3;joke 1 1 1;ship 7 60;knows 0 0");
            due("p 100: on each TIDE", never.parrots(10, 60, 100, 1), 0);
            due("p 0: on none", never.parrots(10, 1, 0, 1), 10);
        });
        test(32, "what is EARNED in these; how many have PASSED at the end, all together (x as it was).", () -> {
            BarPilot b = open(QUEUE);
            b.seed(123456789);
            b.tide();
            due("EARNED by now", b.count(7), 9);
            due("in these alone, three times", b.parrots(3, 4, 0, 0), 12);
            due("all who have PASSED, three times", b.parrots(3, 4, 0, 1), 9);
            due("x as it was", b.count(12), 123456789);
            due("TIDE as it was", b.count(6), 1);
            b.parrots(10, 60, 100, 0);
            due("x as it was", b.count(12), 123456789);
        });
        test(32, "PARROTS what 0: EARNED, 1: how many.", () -> {
            BarPilot b = open(TWO);
            due("what 0", b.parrots(2, 1, 0, 0), 140);
            due("what 1", b.parrots(2, 1, 0, 1), 4);
        });
        test(32, "NONE without these, or a BAR.", () -> {
            BarPilot b = open(TWO);
            due("m 0", b.parrots(0, 1, 1, 1), NONE);
            due("m 11", b.parrots(11, 1, 1, 1), NONE);
            due("n 0", b.parrots(1, 0, 1, 1), NONE);
            due("n 61", b.parrots(1, 61, 1, 1), NONE);
            due("p -1", b.parrots(1, 1, -1, 1), NONE);
            due("p 101", b.parrots(1, 1, 101, 1), NONE);
            due("what -1", b.parrots(1, 1, 1, -1), NONE);
            due("what 2", b.parrots(1, 1, 1, 2), NONE);
            due("no BAR", new BarPilot().parrots(1, 1, 1, 0), NONE);
            due("no BAR", new BarPilot().parrots(1, 1, 1, 1), NONE);
        });
    }

    private static void counts() {
        test(33, "What 0: FADES, 1: LIKE, 2: JOKES, 3: SHIPS, 4: RULES, 5: the RULE IN FORCE (NONE), 6: TIDE, "
                + "7: what is EARNED in all, 8: SHIPS that WAIT, as bits, 9: JOKES he REMEMBERS, as bits, 10: NOTES, "
                + "11: ACTS that can be UNDONE, 12: x, 13: bytes of the TAPE.", () -> {
            BarPilot b = open("bar 7 2;joke 1 2 3;joke 1 2 9;joke 4 5 6;joke 7 7 7;ship 50 2;ship 20 9;ship 3 3"
                    + ";ship 4 4;ship 5 5"
                    + ";knows 0 0;knows 1 1;knows 2 2", "tell 1", "tell 2", "tell 0");
            tides(b, 2);
            b.force(2);
            tides(b, 2);
            b.force(1);
            b.undo();
            b.note(1, 1, 1);
            b.note(1, 1, 1);
            b.seed(9);
            b.feed(1, 2, 3, 4, 5);
            b.end(17);
            // Ship 0 passes with 0; ship 1 tells 1, which is like it; ship 2 passes with 2; 3 and 4 know none.
            int[] want = {7, 2, 4, 5, 3, 1, 3, 53, 26, 7, 2, 3, 9, 17};
            for (int what = 0; what < want.length; what++) {
                due("count(" + what + ")", b.count(what), want[what]);
            }
            b.force(NONE);
            due("none IN FORCE", b.count(5), NONE);
        });
        test(33, "NONE for others.", () -> {
            BarPilot b = open(TWO);
            due("count(14)", b.count(14), NONE);
            due("count(-1)", b.count(-1), NONE);
            due("count(most)", b.count(Integer.MAX_VALUE), NONE);
            due("count(least)", b.count(Integer.MIN_VALUE), NONE);
        });
    }

    private static void images() {
        test(34, "IMAGES 0 to 3: all but the RULES and the TAPE, as it is (the RULE IN FORCE, what can be UNDONE, "
                + "too);", () -> {
            BarPilot b = open(TWO, "tell 1", "tell joke");
            due("image(0)", b.image(0), 0);
            b.force(1);
            b.seed(3);
            b.note(0, 0, NONE);
            b.coin(0, 2);
            b.tide();
            due("image(3)", b.image(3), 1);
            String then = state(b);
            b.force(NONE);
            b.seed(4);
            b.note(NONE, 0, 0);
            b.undo();
            b.undo();
            readBar(b, "bar 9 1");
            due("back(3)", b.back(3), 1);
            due("all is the same", then.equals(state(b)) ? 1 : 0, 1);
            due("the RULE IN FORCE", b.count(5), 1);
            due("x", b.count(12), 3);
            due("the NOTE is so by RULE 1 alone", b.ruled(1), 1);
            due("what can be UNDONE", b.undo(), 1);
            due("TIDE", b.count(6), 0);
            due("what can be UNDONE", b.undo(), 0);
            due("ship(0, 2)", b.ship(0, 2), 1);
            due("no more", b.undo(), -2);
            due("joke(0, 2)", b.joke(0, 2), 3);
            due("alike(0, 1)", b.alike(0, 1), 2);
            due("as the text told it", b.old(NONE, 1, 2, 0), 1);
        });
        test(34, "An IMAGE is made: the TIDE;", () -> {
            BarPilot b = open(TWO);
            due("TIDE 0", b.image(0), 0);
            tides(b, 5);
            due("TIDE 5", b.image(1), 5);
            due("made anew", b.image(0), 5);
            b.tide();
            due("back(0)", b.back(0), 5);
            due("no BAR", new BarPilot().image(3), 0);
            due("it is no ACT", b.count(11), 5);
        });
        test(34, "NONE without it.", () -> {
            BarPilot b = open(TWO);
            b.tide();
            due("image(4)", b.image(4), NONE);
            due("image(-1)", b.image(-1), NONE);
            due("image(most)", b.image(Integer.MAX_VALUE), NONE);
            due("image(3)", b.image(3), 1);
            for (int k = 0; k < 3; k++) {
                due("no other was made", b.back(k), NONE);
            }
        });
    }

    private static void back() {
        test(35, "gone back to, it is as it was (these stay).", () -> {
            BarPilot b = open(TWO);
            b.image(0);
            readRule(b, "tell 1");
            put(b, "tell 2");
            b.tide();
            due("back(0)", b.back(0), 0);
            due("RULES stay", b.count(4), 1);
            due("the TAPE stays", b.count(13), 6);
            due("rule()", b.rule(), 1);
            due("SHIPS that WAIT", b.count(8), 3);
            b.tide();
            b.tide();
            due("the IMAGE is the same still", b.back(0), 0);
            due("SHIPS that WAIT", b.count(8), 3);
            due("REMEMBERED", b.count(9), 0);
            BarPilot acts = open(TWO, "tell 1");
            acts.note(0, 1, 1);
            acts.note(0, 0, 0);
            acts.coin(0, 1);
            acts.coin(0, 2);
            acts.image(1);
            acts.note(NONE, 0, 0);
            acts.note(1, 0, 2);
            acts.note(1, 1, 2);
            acts.undo();
            acts.undo();
            acts.trade(0, 1);
            acts.coin(1, 0);
            acts.tide();
            acts.back(1);
            due("the NOTES are so by RULE 0 alone", acts.ruled(1), 0);
            due("the NOTES are so by RULE 0 alone", acts.ruled(0), 1);
            due("undo()", acts.undo(), 1);
            due("ship(0, 2)", acts.ship(0, 2), 3);
            due("ship(1, 2)", acts.ship(1, 2), 6);
            due("undo()", acts.undo(), 0);
            due("ship(0, 2)", acts.ship(0, 2), 1);
            b.coin(0, 1);
            b.note(0, 0, 0);
            b.seed(8);
            b.force(1);
            due("and again", b.back(0), 0);
            due("ship(0, 2)", b.ship(0, 2), 1);
            due("NOTES", b.count(10), 0);
            due("x", b.count(12), 0);
            due("none IN FORCE", b.count(5), NONE);
            due("ACTS", b.count(11), 0);
        });
        test(35, "All is as in an IMAGE: the TIDE;", () -> {
            BarPilot b = new BarPilot();
            b.image(0);
            readBar(b, TWO);
            tides(b, 2);
            b.image(1);
            tides(b, 25);
            b.image(2);
            readBar(b, "bar 9 1;ship 1 1");
            b.image(3);
            due("back(1)", b.back(1), 2);
            due("ACTS", b.count(11), 2);
            due("back(2)", b.back(2), 27);
            due("ACTS", b.count(11), 20);
            for (int left = 19; left >= 0; left--) {
                due("undo()", b.undo(), left);
            }
            due("TIDE", b.count(6), 7);
            due("back(3)", b.back(3), 0);
            due("FADES", b.count(0), 9);
            due("to no BAR", b.back(0), 0);
            due("fresh()", b.fresh(), NONE);
            due("FADES", b.count(0), 0);
            due("ship(0, 0)", b.ship(0, 0), -2);
            due("back(2)", b.back(2), 27);
            due("ACTS", b.count(11), 20);
        });
        test(35, "NONE, and nothing happens, if it was never made, or without it.", () -> {
            BarPilot b = open(TWO);
            b.image(2);
            b.tide();
            nothingHappens(b, () -> {
                due("back(0)", b.back(0), NONE);
                due("back(1)", b.back(1), NONE);
                due("back(3)", b.back(3), NONE);
                due("back(4)", b.back(4), NONE);
                due("back(-1)", b.back(-1), NONE);
                due("back(least)", b.back(Integer.MIN_VALUE), NONE);
            });
            due("back(2)", b.back(2), 0);
            BarPilot none = new BarPilot();
            due("no BAR", none.back(0), NONE);
        });
    }
}
