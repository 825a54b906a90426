/** What would be: promises 15 to 25, and the terms that they use. */
final class SentencesOfQuestions extends Sentences {

    static void tests() {
        ahead();
        over();
        jokes();
        rowsOfTides();
        rowsByNumbers();
        forget();
        barter();
        school();
        old();
        gameByTurns();
        gameByNumbers();
    }

    private static void ahead() {
        test(15, "(By what is asked nothing changes;", () -> {
            BarPilot b = open("bar 3 2;joke 1 2 3;joke 1 2 9;joke 4 5 6;ship 50 2;ship 20 9;ship 7 7;knows 0 0"
                    + ";knows 1 1;knows 1 2"
                    + ";knows 2 0", "tell 1 if ship<2", "tell joke");
            b.seed(9);
            b.note(0, 0, 0);
            b.coin(1, 0);
            b.tide();
            b.image(2);
            nothingHappens(b, () -> {
                b.ahead(1, 60, 0);
                b.over(1, 0);
                b.alike(0, 1);
                b.fresh();
                b.least();
                b.row(1, 3, 0);
                b.forget(30, 0);
                b.barter(30, 0);
                b.school(30, 0);
                b.old(1, 30, 1, 0);
                b.game(1, 2, 3, 0);
                b.parts(100, 0);
                b.order(1);
                b.ruled(0);
                b.look(3, 0);
                b.parrots(2, 30, 50, 0);
            });
            due("undo()", b.undo(), 1);
            due("SHIPS that WAIT", b.count(8), 7);
            due("undo()", b.undo(), 0);
            due("ship(1, 2)", b.ship(1, 2), 6);
            due("back(2)", b.back(2), 1);
            due("ship 0 is past", b.count(8), 6);
        });
        test(15, "TIDES go on by the RULE IN FORCE, beyond 999, too.)", () -> {
            BarPilot b = open("bar 1 1;joke 1 1 1;ship 5 60;knows 0 0", "tell 1 if tide=1050", "tell 1 if tide=2");
            due("without one", b.ahead(0, 1, 0) + b.over(0, 0), NONE - 2);
            b.force(1);
            due("by rule 1", b.ahead(0, 100, 0), 2);
            due("by rule 1", b.over(0, 0), 2);
            b.force(NONE);
            due("by none", b.over(0, 0), 0);
            String two = "bar 2 3;joke 1 1 1;joke 2 2 2;ship 5 9;ship 6 9;knows 0 0;knows 1 1";
            due("what tells by keeps comes when it comes", open(two, "tell 1 if keeps<5").ahead(1, 6, 0), 5);
            BarPilot since = open(two, "tell 1 if since=5");
            since.say(1, 1);
            since.coin(0, 1);
            due("and by since", since.ahead(0, 6, 0), 5);
            due("and by tide", open(two, "tell 1 if tide=7").ahead(0, 8, 2), 2);
            due("what happens on a TIDE counts on the "
                    + "next", open(two, "tell 1 if ship=1 or passed=1").ahead(0, 2, 0), 1);
            due("and once one has faded", open(QUEUE, "tell fresh").ahead(2, 5, 0), 4);
            // An object is not used for so many calls; the sentence can be seen in no other way.
            b.force(0);
            tides(b, 999);
            due("ahead(0, 52, 0)", b.ahead(0, 52, 0), 1050);
            due("ahead(0, 51, 0)", b.ahead(0, 51, 0), NONE);
            due("over(0, 0)", b.over(0, 0), 1050);
            due("TIDE", b.count(6), 999);
        });
        test(15, "AHEAD n TIDES (0 to 100): on which TIDE a SHIP PASSED; what is EARNED in all"
                + "; how many have PASSED.", () -> {
            BarPilot b = open("bar 1 1;joke 1 1 1;ship 5 60;ship 6 60;ship 7 60;knows 0 0;knows 1 0;knows 2 0",
                    "tell 1 if ship=0 and tide=0 or ship=1 and tide=3 or ship=2 and tide=99");
            due("n -1", b.ahead(0, -1, 1), -2);
            due("n 0: as it is", b.ahead(0, 0, 0), NONE);
            due("n 0: as it is", b.ahead(0, 0, 2), 0);
            due("n 1", b.ahead(0, 1, 0), 0);
            due("n 1", b.ahead(0, 1, 1), 5);
            due("n 3", b.ahead(1, 3, 0), NONE);
            due("n 4", b.ahead(1, 4, 0), 3);
            due("n 4", b.ahead(1, 4, 1), 11);
            due("n 99", b.ahead(2, 99, 0), NONE);
            due("n 99", b.ahead(0, 99, 2), 2);
            due("n 100", b.ahead(2, 100, 0), 99);
            due("n 100", b.ahead(0, 100, 2), 3);
            due("n 100, too late for its cargo", b.ahead(0, 100, 1), 11);
            due("n 101", b.ahead(0, 101, 1), -2);
            b.tide();
            due("who was past already", b.ahead(0, 0, 0), 0);
            due("what was EARNED already", b.ahead(0, 0, 1), 5);
            due("in all", b.ahead(0, 3, 1), 11);
        });
        test(15, "AHEAD what 0: on which TIDE the SHIP PASSED (NONE: it WAITS), 1: EARNED, 2: how many (of no "
                + "SHIP).", () -> {
            BarPilot b = open(QUEUE);
            due("what 0", b.ahead(1, 3, 0), 2);
            due("it WAITS", b.ahead(1, 2, 0), NONE);
            due("what 1", b.ahead(1, 3, 1), 13);
            due("what 2", b.ahead(1, 3, 2), 2);
            due("what 2 of no SHIP", b.ahead(3, 3, 2), 2);
            due("what 2 of no SHIP", b.ahead(-1, 3, 2), 2);
            due("what 1 of no SHIP", b.ahead(Integer.MIN_VALUE, 3, 1), 13);
            due("no SHIPS", open("bar 1 1").ahead(0, 100, 2), 0);
        });
        test(15, "-2 without these, or a BAR.", () -> {
            BarPilot b = open(QUEUE);
            due("n -1", b.ahead(0, -1, 0), -2);
            due("n 101", b.ahead(0, 101, 2), -2);
            due("what -1", b.ahead(0, 1, -1), -2);
            due("what 3", b.ahead(0, 1, 3), -2);
            due("ship 3", b.ahead(3, 1, 0), -2);
            due("ship -1", b.ahead(-1, 1, 0), -2);
            due("no SHIPS", open("bar 1 1").ahead(0, 1, 0), -2);
            for (int what = 0; what <= 2; what++) {
                due("no BAR", new BarPilot().ahead(0, 0, what), -2);
            }
        });
    }

    private static void over() {
        test(16, "OVER of a SHIP that WAITS: the first TIDE, this one the first, of 100, on which it PASSES"
                + "; what it TELLS then.", () -> {
            BarPilot b = open("bar 1 1;joke 1 1 1;joke 2 2 2;ship 5 60;ship 6 60;ship 7 60;knows 0 1;knows 1 0"
                    + ";knows 2 1;knows 2 0",
                    "tell 1 if ship=0 and tide=0 or ship=1 and tide=99 or ship=2 and tide=100 and joke=1");
            due("this one", b.over(0, 0), 0);
            due("what it TELLS", b.over(0, 1), 1);
            due("the 100th", b.over(1, 0), 99);
            due("the 100th", b.over(1, 1), 0);
            due("the 101st", b.over(2, 0), -2);
            due("the 101st", b.over(2, 1), -2);
            b.tide();
            due("the 100th from here", b.over(2, 0), 100);
            due("the 100th from here", b.over(2, 1), 1);
            due("the 99th from here", b.over(1, 0), 99);
            BarPilot told = open("bar 2 3;joke 1 1 1;joke 2 2 2;ship 1 1;ship 2 2;knows 0 0"
                    + ";knows 1 0", "tell 1 if tide<1 or tide>2");
            due("it TELLS on TIDE 0, too, but does not PASS", told.over(1, 0), 3);
        });
        test(16, "OVER what 0: the TIDE, 1: the JOKE; -2: on none of these.", () -> {
            BarPilot b = open(TWO + ";ship 1 1", "tell 1 if tide=1");
            due("what 0", b.over(0, 0), 1);
            due("what 1", b.over(0, 1), 0);
            due("on none, what 0", b.over(2, 0), -2);
            due("on none, what 1", b.over(2, 1), -2);
        });
        test(16, "NONE without these.", () -> {
            BarPilot b = open(QUEUE);
            b.tide();
            due("a SHIP that has PASSED", b.over(0, 0), NONE);
            due("what -1", b.over(1, -1), NONE);
            due("what 2", b.over(1, 2), NONE);
            due("ship 3", b.over(3, 0), NONE);
            due("ship -1", b.over(-1, 0), NONE);
            due("no BAR", new BarPilot().over(0, 0), NONE);
        });
    }

    private static void jokes() {
        test(17, "ALIKE: of two JOKES how many parts are.", () -> {
            BarPilot b = open("bar 1 1;joke 1 2 3;joke 3 1 2;joke 1 9 9;joke 9 2 9;joke 9 9 3;joke 1 2 9"
                    + ";joke 9 2 3;joke 1 2 3");
            int[] want = {3, 0, 1, 1, 1, 2, 2, 3};
            for (int joke = 0; joke < 8; joke++) {
                due("alike(0, " + joke + ")", b.alike(0, joke), want[joke]);
                due("alike(" + joke + ", 0)", b.alike(joke, 0), want[joke]);
            }
        });
        test(17, "ALIKE; NONE without these (3 of one to itself).", () -> {
            BarPilot b = open(TWO);
            due("itself", b.alike(2, 2), 3);
            due("joke 3", b.alike(0, 3), NONE);
            due("joke 3", b.alike(3, 0), NONE);
            due("joke 3 to itself", b.alike(3, 3), NONE);
            due("joke -1", b.alike(-1, 0), NONE);
            due("joke -1", b.alike(0, -1), NONE);
            due("no BAR", new BarPilot().alike(0, 0), NONE);
        });
        test(18, "FRESH: JOKES that are NEW now, as bits.", () -> {
            BarPilot b = open("bar 2 2;joke 1 1 1;joke 1 1 2;joke 3 3 3;joke 4 4 4;joke 5 5 5;joke 6 6 6"
                    + ";joke 7 7 7;joke 8 8 8"
                    + ";ship 1 1;knows 0 0");
            due("all", b.fresh(), 255);
            b.tide();
            due("but 0 and 1", b.fresh(), 252);
            b.tide();
            due("all again", b.fresh(), 255);
            BarPilot none = open("bar 9 1;joke 1 1 1;joke 1 2 2;ship 1 1;knows 0 0");
            none.tide();
            due("none", none.fresh(), 0);
        });
        test(18, "FRESH, as bits; NONE without a BAR.", () -> {
            due("no JOKES", open("bar 1 1").fresh(), 0);
            due("no BAR", new BarPilot().fresh(), NONE);
        });
        test(19, "LEAST: SET, TURN, KIN of which none of the JOKES there are has LIKE or more alike, "
                + "as a number of these three digits: the least.", () -> {
            due("no JOKES", open("bar 1 1").least(), 0);
            due("LIKE 3, 000 is free", open("bar 1 3;joke 0 0 1").least(), 0);
            due("LIKE 3", open("bar 1 3;joke 0 0 0").least(), 1);
            due("LIKE 3", open("bar 1 3;joke 0 0 0;joke 0 0 1;joke 0 0 2;joke 0 0 3;joke 0 0 4;joke 0 0 5"
                    + ";joke 0 0 6;joke 0 0 7")
                    .least(), 8);
            due("LIKE 2", open("bar 1 2;joke 0 0 0").least(), 11);
            due("LIKE 2, 011 is like 5 1 1", open("bar 1 2;joke 0 0 0;joke 5 1 1").least(), 12);
            due("LIKE 2, SET alone does not count", open("bar 1 2;joke 0 1 1").least(), 0);
            due("LIKE 1", open("bar 1 1;joke 0 0 0").least(), 111);
            due("LIKE 1", open("bar 1 1;joke 1 2 0").least(), 1);
            due("LIKE 1", open("bar 1 1;joke 0 1 1").least(), 100);
            due("LIKE 1", open("bar 1 1;joke 1 0 1").least(), 10);
            due("LIKE 1", open("bar 1 1;joke 0 1 1;joke 1 9 9").least(), 200);
            due("LIKE 1", open("bar 1 1;joke 0 1 0;joke 9 0 1").least(), 122);
            BarPilot b = open("bar 9 1;joke 0 0 0;ship 1 1;knows 0 0");
            b.tide();
            due("whatever he REMEMBERS", b.least(), 111);
        });
        test(19, "LEAST; -2: there is none; NONE without a BAR.", () -> {
            due("no BAR", new BarPilot().least(), NONE);
            // Eight jokes leave two digits of each part, so that there always is one: this is the greatest.
            due("the greatest", open("bar 1 1;joke 0 0 0;joke 1 1 1;joke 2 2 2;joke 3 3 3;joke 4 4 4;joke 5 5 5"
                    + ";joke 6 6 6;joke 7 7 7")
                    .least(), 888);
        });
    }

    private static void rowsOfTides() {
        test(20, "ROW of a SHIP that WAITS for n TIDES (1 to 4):", () -> {
            BarPilot b = open("bar 3 3;joke 1 1 1;ship 9 9;ship 4 9;knows 0 0;knows 1 0");
            due("n 0", b.row(1, 0, 0), -3);
            due("n 1", b.row(0, 1, 0), 0);
            due("n 1", b.row(1, 1, 0), -2);
            due("n 3", b.row(1, 3, 0), -2);
            due("n 4: 0 fades on TIDE 3", b.row(1, 4, 0), 3);
            due("n 5", b.row(1, 5, 0), -3);
            b.tide();
            due("n 2 from TIDE 1 on", b.row(1, 2, 0), -2);
            due("n 3 from TIDE 1 on", b.row(1, 3, 0), 3);
            due("it does not WAIT", b.row(0, 1, 0), -3);
        });
        test(20, "what it TELLS on each, any that it KNOWS, or none, in place of what the RULE says "
                + "(others by it; none any more, once it has PASSED),", () -> {
            BarPilot b = open("bar 9 3;joke 1 1 1;joke 2 2 2;joke 3 3 3;ship 9 9;ship 8 8;ship 7 7;knows 0 1"
                    + ";knows 0 2;knows 1 1"
                    + ";knows 2 0", "tell 1 if ship=0 and joke=2 or ship=1");
            due("not what the RULE says, but one that it KNOWS", b.row(0, 1, 1), 1);
            due("where the RULE says none", b.row(2, 1, 1), 0);
            due("ship 0 tells 2 by the RULE, so 1 is NEW for ship 1", b.row(1, 1, 0), 0);
            due("then none", b.row(0, 4, 2), NONE);
            due("then none", b.row(0, 4, 3), NONE);
            due("then none", b.row(0, 4, 4), NONE);
            b = open("bar 1 3;joke 1 1 1;ship 5 9;ship 6 9;ship 7 9;knows 0 0;knows 1 0;knows 2 0", "tell 1 if ship<2");
            due("others tell ahead of it on the same TIDE", b.row(2, 2, 0), -2);
            due("others tell ahead of it on the same TIDE", b.row(2, 3, 0), 2);
            due("nobody tells ahead of ship 0", b.row(0, 1, 0), 0);
            b = open("bar 2 3;joke 1 1 1;ship 5 9;ship 6 9;knows 0 0;knows 1 0", "tell 1");
            b.say(1, 0);
            due("by the RULE it would tell 0 over and over", b.over(0, 0), -2);
            due("it need not", b.row(0, 3, 0), 2);
            b = open("bar 2 3;joke 1 1 1;ship 5 9;ship 6 9;ship 7 9;knows 0 0;knows 1 0;knows 2 0", "tell 1 if ship=2");
            b.say(1, 0);
            due("ship 2 tells it behind ship 0 on each TIDE", b.row(0, 4, 0), -2);
            b.force(NONE);
            due("without a RULE ship 2 waits till it is NEW, and ship 0 is ahead", b.row(0, 4, 0), 2);
        });
        test(20, "so that it PASSES earliest; of several the first row (none ahead of JOKE 0): on which TIDE"
                + "; which JOKE on which.", () -> {
            BarPilot b = open("bar 2 3;joke 1 1 1;joke 2 2 2;joke 3 3 3;ship 5 9;ship 6 9;knows 0 0;knows 0 2"
                    + ";knows 0 1;knows 1 0",
                    "tell 0");
            b.say(1, 0);
            due("earliest", b.row(0, 4, 0), 0);
            due("of 1 and 2 the first", b.row(0, 4, 1), 1);
            b = open("bar 2 3;joke 1 1 1;ship 5 9;ship 6 9;knows 0 0;knows 1 0", "tell 0");
            b.say(1, 0);
            due("TIDE 2", b.row(0, 4, 0), 2);
            due("none ahead of 0, which would do on TIDE 0", b.row(0, 4, 1), NONE);
            due("none on TIDE 1", b.row(0, 4, 2), NONE);
            due("0 on TIDE 2", b.row(0, 4, 3), 0);
            due("it is past", b.row(0, 4, 4), NONE);
            // Ship 1 tells 1 over and over, ship 4 tells 3, so that neither 1 nor 2 (like 3) gets new. But if ship 0 tells
            // 2, ship 1 tells 0 behind it, is past, and 1 fades.
            b = open("bar 2 2;joke 3 3 2;joke 0 0 0;joke 1 1 2;joke 1 1 1;ship 9 9;ship 9 9;ship 9 9;ship 9 9"
                    + ";ship 9 9;knows 0 1;knows 0 2;knows 1 1;knows 1 0;knows 2 1;knows 3 3;knows 4 3",
                    "tell 5 if joke=0 and like=1;tell 3 if joke=1 and ship=1;tell 3 if joke=3 and ship=4");
            b.say(2, 1);
            b.say(3, 3);
            due("too short", b.row(0, 2, 0), -2);
            due("TIDE", b.row(0, 3, 0), 2);
            due("of two rows the first", b.row(0, 3, 1), NONE);
            due("makes ship 1 pass", b.row(0, 3, 2), 2);
            due("passes", b.row(0, 3, 3), 1);
        });
    }

    private static void rowsByNumbers() {
        test(20, "ROW what 0: on which TIDE (-2: by none of these),", () -> {
            BarPilot b = tides(open(TWO + ";ship 3 3", "tell 0"), 7);
            due("TIDE 7", b.row(0, 1, 0), 7);
            due("a SHIP that KNOWS none", b.row(2, 4, 0), -2);
        });
        test(20, "1 to 4: which JOKE on that one (NONE: none; -2: there is no such, or by none of these).", () -> {
            BarPilot b = open("bar 3 3;joke 1 1 1;joke 2 2 2;ship 9 9;ship 4 9;ship 5 5;knows 0 0;knows 1 0");
            due("NONE: none", b.row(1, 4, 1), NONE);
            due("NONE: none", b.row(1, 4, 2), NONE);
            due("NONE: none", b.row(1, 4, 3), NONE);
            due("which", b.row(1, 4, 4), 0);
            due("which", b.row(0, 1, 1), 0);
            for (int n = 1; n <= 3; n++) {
                due("there is no such, n " + n, b.row(0, n, n + 1), -2);
                due("there is no such, n " + n, b.row(0, n, 4), -2);
                due("there is one, n " + n, b.row(0, n, n), n == 1 ? 0 : NONE);
            }
            for (int what = 1; what <= 4; what++) {
                due("by none of these", b.row(1, 3, what), -2);
                due("by none of these", b.row(2, 4, what), -2);
            }
        });
        test(20, "-3 without these.", () -> {
            BarPilot b = open(QUEUE);
            b.tide();
            due("a SHIP that has PASSED", b.row(0, 1, 0), -3);
            due("what -1", b.row(1, 1, -1), -3);
            due("what 5", b.row(1, 4, 5), -3);
            due("n 0", b.row(1, 0, 1), -3);
            due("n 5", b.row(1, 5, 1), -3);
            due("ship 3", b.row(3, 1, 0), -3);
            due("ship -1", b.row(-1, 1, 0), -3);
            due("no BAR", new BarPilot().row(0, 1, 0), -3);
        });
    }

    private static void forget() {
        test(21, "FORGET for n TIDES (1 to 60):", () -> {
            BarPilot b = open("bar 60 3;joke 1 1 1;ship 5 60;ship 7 60;knows 0 0"
                    + ";knows 1 0", "tell 1 if ship=1 and tide=60");
            b.tide();
            b.say(0, 0);
            due("n 0", b.forget(0, 1), -2);
            due("n 1", b.forget(1, 1), 5);
            due("n 59, up to TIDE 59", b.forget(59, 0), NONE);
            due("n 60, up to TIDE 60", b.forget(60, 0), 0);
            due("n 60", b.forget(60, 1), 12);
            due("n 61", b.forget(61, 1), -2);
            BarPilot now = open("bar 9 3;joke 1 1 1;ship 5 9;ship 6 9;knows 0 0;knows 1 0");
            now.tide();
            due("n 1", now.forget(1, 0), 0);
        });
        test(21, "the JOKE that had best be DULLED now, of those he REMEMBERS, or none, so that most is EARNED in "
                + "all by then;", () -> {
            BarPilot b = open("bar 9 3;joke 1 1 1;joke 2 2 2;joke 3 3 3;ship 5 9;ship 6 9;ship 7 9;ship 8 9;ship 9 9"
                    + ";knows 0 0;knows 1 1;knows 2 0;knows 3 1;knows 4 0");
            b.tide();
            due("1 lets 8 past, 0 lets 7", b.forget(1, 0), 1);
            due("in all", b.forget(1, 1), 19);
            BarPilot since = open("bar 2 3;joke 1 1 1;ship 5 9;ship 6 9;knows 0 0"
                    + ";knows 1 0", "tell 1 if since=2 or tide=0");
            since.say(0, 0);
            since.tide();
            due("had he forgotten it, it would not be told", since.forget(9, 0), NONE);
            due("in all", since.forget(9, 1), 11);
            BarPilot faded = open("bar 1 1;joke 1 1 1;ship 5 9;ship 6 9;knows 0 0"
                    + ";knows 1 0", "tell 1 if tide=0;tell since-98");
            faded.tide();
            due("faded: it can't be DULLED, though since would be 99", faded.forget(3, 0), NONE);
            due("in all", faded.forget(3, 1), 5);
        });
        test(21, "of several none, then the least; how much.", () -> {
            BarPilot b = open("bar 9 3;joke 1 1 1;joke 2 2 2;joke 3 3 3;ship 5 9;ship 6 9;ship 7 0;knows 0 1"
                    + ";knows 1 2;knows 2 1;knows 2 2");
            b.tide();
            due("none", b.forget(9, 0), NONE);
            due("how much, KEEPS is over", b.forget(9, 1), 11);
            BarPilot two = open("bar 9 3;joke 1 1 1;joke 2 2 2;joke 3 3 3;ship 5 9;ship 6 9;ship 7 9;knows 0 1"
                    + ";knows 1 2;knows 2 1;knows 2 2");
            two.tide();
            due("1 and 2 do alike: the least", two.forget(8, 0), 1);
            due("how much", two.forget(8, 1), 18);
            due("1 fades on TIDE 9, so that none does as well", two.forget(9, 0), NONE);
            due("how much", two.forget(9, 1), 18);
        });
        test(21, "FORGET what 0: which (NONE: none), 1: how much.", () -> {
            BarPilot b = open(QUEUE);
            due("which", b.forget(1, 0), NONE);
            due("how much", b.forget(1, 1), 9);
            b.tide();
            due("which", b.forget(1, 0), 0);
            due("how much", b.forget(1, 1), 13);
            due("no SHIPS", open("bar 1 1").forget(1, 1), 0);
            due("no SHIPS", open("bar 1 1").forget(1, 0), NONE);
        });
        test(21, "-2 without these, or a BAR.", () -> {
            BarPilot b = open(TWO);
            due("n 0", b.forget(0, 0), -2);
            due("n 61", b.forget(61, 0), -2);
            due("what -1", b.forget(1, -1), -2);
            due("what 2", b.forget(1, 2), -2);
            due("no BAR", new BarPilot().forget(1, 0), -2);
            due("no BAR", new BarPilot().forget(1, 1), -2);
        });
    }

    private static void barter() {
        test(22, "BARTER for n TIDES (1 to 60):", () -> {
            BarPilot b = open("bar 1 3;joke 1 1 1;ship 7 60;ship 0 60;knows 1 0", "tell 1 if tide=59");
            due("n 0", b.barter(0, 2), -2);
            due("n 1", b.barter(1, 0), NONE);
            due("n 59", b.barter(59, 0), NONE);
            due("n 60", b.barter(60, 0), 0);
            due("n 60", b.barter(60, 1), 1);
            due("n 60", b.barter(60, 2), 7);
            due("n 61", b.barter(61, 2), -2);
            due("n 1", open("bar 1 3;joke 1 1 1;ship 7 60;ship 0 60;knows 1 0").barter(1, 2), 7);
        });
        test(22, "two SHIPS that WAIT, which had best KNOW all of both now, or none, so that most is EARNED in all "
                + "by then;", () -> {
            BarPilot b = open("bar 60 3;joke 1 1 1;joke 2 2 2;joke 3 3 3;ship 5 9;ship 6 9;ship 7 9;ship 8 9"
                    + ";knows 0 0;knows 0 1;knows 3 2");
            due("0 gives 1 to ship 2 (7)", b.barter(1, 0), 0);
            due("rather than to ship 1 (6)", b.barter(1, 1), 2);
            due("in all", b.barter(1, 2), 20);
            b.tide();
            due("who is past gives nothing", b.barter(9, 0), NONE);
            due("who is past gives nothing", b.barter(9, 1), NONE);
            due("in all", b.barter(9, 2), 13);
            BarPilot past = open("bar 60 3;joke 1 1 1;joke 2 2 2;joke 3 3 3;ship 5 9;ship 6 9;ship 7 9;knows 1 2"
                    + ";knows 2 0;knows 2 1");
            past.say(1, 2);
            due("0 and 2, as 1 is past", past.barter(1, 0), 0);
            due("0 and 2, as 1 is past", past.barter(1, 1), 2);
            due("in all", past.barter(1, 2), 18);
            BarPilot later = open("bar 2 3;joke 1 1 1;ship 7 9;ship 5 9;knows 1 0");
            due("ship 1 has to wait till TIDE 2 then", later.barter(2, 2), 7);
            due("ship 1, too", later.barter(3, 2), 12);
            BarPilot worse = open("bar 60 3;joke 1 1 1;joke 2 2 2;ship 5 9;ship 6 9;knows 0 1;knows 1 0;knows 1 1",
                    "tell 9 if joke=0;tell 1");
            due("none is best, if telling 0 keeps ship 1 from 1", worse.barter(1, 0), NONE);
            due("in all", worse.barter(1, 2), 11);
        });
        test(22, "of several none, then the first one least, then the other; how much.", () -> {
            BarPilot b = open("bar 9 3;joke 1 1 1;joke 2 2 2;joke 3 3 3;ship 5 9;ship 5 9;ship 5 9;ship 5 9"
                    + ";knows 0 0;knows 0 1;knows 3 2");
            due("0 and 1, 0 and 2, 3 and 1 and more do alike", b.barter(1, 0), 0);
            due("then the other", b.barter(1, 1), 1);
            due("how much", b.barter(1, 2), 15);
            b = open("bar 9 3;joke 1 1 1;joke 2 2 2;ship 5 9;ship 5 9;ship 5 9;knows 0 0;knows 2 0;knows 2 1");
            due("1 and 2 or none: 0 passes with 0, one of them with 1", b.barter(1, 0), NONE);
            due("how much", b.barter(1, 2), 10);
            b = open("bar 9 3;joke 1 1 1;joke 2 2 2;joke 3 3 3;ship 1 9;ship 5 9;ship 5 9;ship 5 9;knows 0 0"
                    + ";knows 3 1;knows 3 2");
            due("1 and 3 ahead of 2 and 3", b.barter(1, 0), 1);
            due("1 and 3 ahead of 2 and 3", b.barter(1, 1), 3);
            due("how much", b.barter(1, 2), 11);
            due("one SHIP alone", open("bar 1 1;joke 1 1 1;ship 1 1").barter(1, 0), NONE);
        });
        test(22, "BARTER what 0, 1: who (NONE: none), 2: how much.", () -> {
            BarPilot b = open("bar 9 3;joke 1 1 1;joke 2 2 2;ship 5 9;ship 6 9;knows 1 0;knows 1 1");
            due("who", b.barter(1, 0), 0);
            due("who", b.barter(1, 1), 1);
            due("how much", b.barter(1, 2), 11);
            due("none", open(TWO).barter(1, 0), NONE);
            due("none", open(TWO).barter(1, 1), NONE);
            due("how much", open(TWO).barter(1, 2), 70);
        });
        test(22, "-2 without these, or a BAR.", () -> {
            BarPilot b = open(TWO);
            due("n 0", b.barter(0, 0), -2);
            due("n 61", b.barter(61, 0), -2);
            due("what -1", b.barter(1, -1), -2);
            due("what 3", b.barter(1, 3), -2);
            for (int what = 0; what <= 2; what++) {
                due("no BAR", new BarPilot().barter(1, what), -2);
            }
        });
    }

    private static void school() {
        test(23, "SCHOOL for n TIDES (1 to 60):", () -> {
            BarPilot b = open("bar 1 3;joke 1 1 1;ship 7 60", "tell 1 if tide=59");
            due("n 0", b.school(0, 0), NONE);
            due("n 1", b.school(1, 0), -2);
            due("n 59", b.school(59, 0), -2);
            due("n 60", b.school(60, 0), 1);
            due("n 61", b.school(61, 0), NONE);
            due("n 1", open("bar 1 3;joke 1 1 1;ship 7 60").school(1, 0), 1);
        });
        test(23, "the fewest JOKES which each SHIP that WAITS KNOWS now, besides its own, so that all have PASSED "
                + "then: how many;", () -> {
            BarPilot b = open("bar 9 3;joke 1 1 1;joke 2 2 2;joke 3 3 3;ship 5 9;ship 6 3;ship 7 9;knows 0 0"
                    + ";knows 1 0;knows 2 0");
            due("two more on one TIDE", b.school(1, 0), 2);
            due("two more", b.school(9, 0), 2);
            due("one more, 0 fades on TIDE 9", b.school(10, 0), 1);
            due("one more", b.school(18, 0), 1);
            due("none more, it fades again on TIDE 18", b.school(19, 0), 0);
            b.tide();
            due("two WAIT yet: two more", b.school(1, 0), 2);
            BarPilot last = open("bar 9 3;joke 1 1 1;joke 2 2 2;ship 1 1;ship 2 2;knows 1 0;knows 1 1");
            due("one that another KNOWS already", last.school(1, 0), 1);
            due("one that another KNOWS already", last.school(1, 1), 1);
            due("by none of all, if all are like", open("bar 9 3;joke 1 1 1;joke 1 1 1;ship 1 1;ship 1 1;knows 0 0"
                    + ";knows 1 0")
                    .school(9, 0), -2);
            due("all PASS by their own", open(TWO).school(1, 0), 0);
            due("no SHIPS", open("bar 1 1;joke 1 1 1").school(1, 0), 0);
            due("no JOKES", open("bar 1 1;ship 1 1").school(60, 0), -2);
            BarPilot all = open("bar 60 1;joke 0 0 0;joke 1 1 1;joke 2 2 2;joke 3 3 3;joke 4 4 4;joke 5 5 5"
                    + ";joke 6 6 6;joke 7 7 7"
                    + ";ship 1 1;ship 2 2;ship 3 3;ship 4 4;ship 5 5");
            due("five for five", all.school(1, 0), 5);
            due("the least five", all.school(1, 1), 31);
            BarPilot past = open("bar 9 3;joke 1 1 1;joke 2 2 2;ship 1 1;ship 2 2;knows 0 0"
                    + ";knows 1 1", "tell 1 if known=1");
            past.say(0, 0);
            due("who is past learns nothing", past.school(1, 0), 0);
        });
        test(23, "of several sets the least as bits.", () -> {
            BarPilot b = open("bar 9 2;joke 1 1 1;joke 1 1 2;joke 3 3 3;joke 4 4 4;ship 1 1;ship 2 2;knows 0 0"
                    + ";knows 1 0");
            b.tide();
            due("0 and 1 are not NEW; of 2 and 3 it is 2", b.school(1, 1), 4);
            BarPilot few = open("bar 1 3;joke 1 1 1;joke 2 2 2;joke 3 3 3;ship 5 9"
                    + ";ship 6 3", "tell 1 if joke=2 or joke=tide");
            due("one joke, though 3 as bits would be less", few.school(2, 1), 4);
        });
        test(23, "SCHOOL what 0: how many, 1: the set; -2: by none.", () -> {
            BarPilot b = open("bar 9 3;joke 1 1 1;joke 2 2 2;ship 5 9;ship 6 3;knows 0 0");
            due("how many", b.school(1, 0), 1);
            due("the set", b.school(1, 1), 2);
            due("none is needed", open(TWO).school(1, 1), 0);
            BarPilot none = open("bar 9 3;joke 1 1 1;ship 5 9;ship 6 3");
            due("by none", none.school(9, 0), -2);
            due("by none", none.school(9, 1), -2);
        });
        test(23, "NONE without these, or a BAR.", () -> {
            BarPilot b = open(TWO);
            due("n 0", b.school(0, 1), NONE);
            due("n 61", b.school(61, 1), NONE);
            due("what -1", b.school(1, -1), NONE);
            due("what 2", b.school(1, 2), NONE);
            due("no BAR", new BarPilot().school(1, 0), NONE);
            due("no BAR", new BarPilot().school(1, 1), NONE);
        });
    }

    private static void old() {
        test(24, "OLD: of all sets of JOKES that he had heard on the TIDE ahead of TIDE 0 those by which, from the "
                + "begin on, "
                + "by a RULE (or NONE), all else as the text told it,", () -> {
            String one = ";joke 1 1 1;joke 9 9 9;ship 1 1;knows 0 0";
            due("FADES 1: forgotten on TIDE 0", open("bar 1 1" + one).old(NONE, 1, 1, 0), 4);
            due("FADES 2: remembered on TIDE 0", open("bar 2 1" + one).old(NONE, 1, 1, 0), 2);
            due("FADES 2: forgotten on TIDE 1", open("bar 2 1" + one).old(NONE, 2, 1, 0), 4);
            due("FADES 60: remembered on TIDE 58", open("bar 60 1" + one).old(NONE, 59, 1, 0), 2);
            due("FADES 60: forgotten on TIDE 59", open("bar 60 1" + one).old(NONE, 60, 1, 0), 4);
            due("since is 1 on TIDE 0", open("bar 1 1" + one, "tell 1 if since=1").old(0, 1, 1, 0), 2);
            due("the empty set counts", open("bar 2 1;ship 1 1").old(NONE, 1, 0, 0), 1);
            BarPilot b = open(TWO, "tell 0", "tell 1");
            due("by none, whatever is IN FORCE", b.old(NONE, 1, 2, 0), 1);
            due("by RULE 0", b.old(0, 1, 0, 0), 8);
            due("by RULE 1 ship 1 tells 1", b.old(1, 1, 2, 0), 0);
            b.coin(0, 2);
            b.coin(0, 1);
            b.say(1, 2);
            b.tide();
            due("as the text told it", b.old(NONE, 1, 2, 0), 1);
            due("the RULE IN FORCE is the same then", b.count(5), 0);
        });
        test(24, "so many SHIPS (0 to 5) have PASSED behind n TIDES (1 to 60):", () -> {
            String five = "bar 2 1;joke 0 0 0;joke 1 1 1;joke 2 2 2;joke 3 3 3;joke 4 4 4;ship 1 1;ship 1 1"
                    + ";ship 1 1;ship 1 1"
                    + ";ship 1 1;knows 0 0;knows 1 1;knows 2 2;knows 3 3;knows 4 4";
            BarPilot b = open(five, "tell 1 if tide=59");
            int[] choose = {1, 5, 10, 10, 5, 1};
            for (int many = 0; many <= 5; many++) {
                due("many " + many, b.old(NONE, 1, many, 0), choose[5 - many]);
            }
            due("many -1", b.old(NONE, 1, -1, 0), -3);
            due("many 6", b.old(NONE, 1, 6, 0), -3);
            due("n 0", b.old(NONE, 0, 1, 0), -3);
            due("n 2: all", b.old(NONE, 2, 5, 0), 32);
            due("n 2: not more, not fewer", b.old(NONE, 2, 4, 0), 0);
            due("n 59", b.old(0, 59, 0, 0), 32);
            due("n 60", b.old(0, 60, 5, 0), 32);
            due("n 60", b.old(0, 60, 0, 0), 0);
            due("n 61", b.old(0, 61, 0, 0), -3);
            due("more than there are SHIPS", open(TWO).old(NONE, 1, 5, 0), 0);
        });
        test(24, "how many; the least as bits; JOKES that are in all, as bits (0 without such).", () -> {
            BarPilot b = open(TWO);
            due("none PASSED: 0 or 1, and 2", b.old(NONE, 1, 0, 0), 3);
            due("the least", b.old(NONE, 1, 0, 1), 5);
            due("in all", b.old(NONE, 1, 0, 2), 4);
            due("one PASSED", b.old(NONE, 1, 1, 0), 4);
            due("the least", b.old(NONE, 1, 1, 1), 1);
            due("in all: none", b.old(NONE, 1, 1, 2), 0);
            due("two PASSED: the empty set", b.old(NONE, 1, 2, 0), 1);
            due("the least", b.old(NONE, 1, 2, 1), 0);
            due("in all", b.old(NONE, 1, 2, 2), 0);
            due("without such", b.old(NONE, 1, 3, 2), 0);
            BarPilot all = open("bar 2 1;joke 0 0 0;joke 1 1 1;joke 2 2 2;joke 3 3 3;joke 4 4 4;joke 5 5 5"
                    + ";joke 6 6 6;joke 7 7 7"
                    + ";ship 1 1;knows 0 0;knows 0 1;knows 0 2;knows 0 3;knows 0 4;knows 0 5;knows 0 6;knows 0 7");
            due("all eight", all.old(NONE, 1, 0, 1), 255);
            due("all eight", all.old(NONE, 1, 0, 2), 255);
            due("all but that", all.old(NONE, 1, 1, 0), 255);
        });
        test(24, "OLD (rule NONE: none) what 0: how many, 1: the least (-2: there is none), 2: in all.", () -> {
            BarPilot b = open(TWO, "tell 1 if ship=0");
            due("what 0", b.old(0, 1, 0, 0), 6);
            due("what 1", b.old(0, 1, 0, 1), 1);
            due("what 2", b.old(0, 1, 0, 2), 0);
            due("what 0", b.old(0, 1, 1, 0), 2);
            due("what 0, there is none", b.old(0, 1, 2, 0), 0);
            due("what 1, there is none", b.old(0, 1, 2, 1), -2);
            due("what 2, there is none", b.old(0, 1, 2, 2), 0);
            due("none, not what is IN FORCE", b.old(NONE, 1, 2, 0), 1);
        });
        test(24, "-3 without these, or a BAR.", () -> {
            BarPilot b = open(TWO, "tell 1");
            due("rule 1", b.old(1, 1, 1, 0), -3);
            due("rule -2", b.old(-2, 1, 1, 0), -3);
            due("n 0", b.old(0, 0, 1, 0), -3);
            due("n 61", b.old(0, 61, 1, 0), -3);
            due("many -1", b.old(0, 1, -1, 0), -3);
            due("many 6", b.old(0, 1, 6, 0), -3);
            due("what -1", b.old(0, 1, 1, -1), -3);
            due("what 3", b.old(0, 1, 1, 3), -3);
            for (int what = 0; what <= 2; what++) {
                due("no BAR", new BarPilot().old(NONE, 1, 0, what), -3);
            }
            BarPilot six = open(TWO, "tell 1", "tell 1", "tell 1", "tell 1", "tell 1", "tell 0");
            due("rule 5", six.old(5, 1, 0, 0), 8);
            due("rule 6", six.old(6, 1, 0, 0), -3);
        });
    }

    private static void gameByTurns() {
        test(25, "GAME of two SHIPS that WAIT for n turns (1 to 3):", () -> {
            BarPilot b = open("bar 2 3;joke 1 1 1;joke 2 2 2;ship 9 9;ship 4 9;ship 1 1;knows 0 0;knows 1 1;knows 2 0");
            b.say(2, 0);
            due("n 0", b.game(0, 1, 0, 0), -1000);
            due("n 1: 0 is not NEW", b.game(0, 1, 1, 0), 0);
            due("n 2: the other one", b.game(0, 1, 2, 0), -4);
            due("n 3: 0 is NEW on TIDE 2", b.game(0, 1, 3, 0), 5);
            due("n 4", b.game(0, 1, 4, 0), -1000);
            due("n 3, the other way", b.game(1, 0, 3, 0), 4);
            due("one that has PASSED", b.game(2, 1, 1, 0), -1000);
            due("one that has PASSED", b.game(1, 2, 1, 0), -1000);
        });
        test(25, "by turns, the first one first, one TELLS a JOKE that it KNOWS, any, or none (none, if it has "
                + "PASSED), "
                + "nobody else does; then TIDE is 1 more;", () -> {
            due("the first one first", open("bar 9 3;joke 1 1 1;ship 9 9;ship 4 9;knows 0 0"
                    + ";knows 1 0").game(1, 0, 2, 0), 4);
            due("one that it KNOWS", open("bar 9 3;joke 1 1 1;ship 9 9;ship 4 9;knows 1 0").game(0, 1, 1, 0), 0);
            due("the second turn is on TIDE 1", open("bar 9 3;joke 1 1 1;ship 9 9;ship 4 1"
                    + ";knows 1 0").game(0, 1, 2, 0), -4);
            due("the second turn is on TIDE 1", open("bar 9 3;joke 1 1 1;ship 9 9;ship 4 0"
                    + ";knows 1 0").game(0, 1, 2, 0), 0);
            String third = ";ship 4 9;ship 1 1;knows 0 0;knows 2 0";
            for (int keeps = 1; keeps <= 2; keeps++) {
                BarPilot b = open("bar 2 3;joke 1 1 1;ship 9 " + keeps + third);
                b.say(2, 0);
                due("the third turn is on TIDE 2, KEEPS " + keeps, b.game(0, 1, 3, 0), keeps == 2 ? 9 : 0);
            }
            due("who has PASSED tells none, so it has its cargo once",
                    open("bar 9 3;joke 1 1 1;joke 2 2 2;ship 9 9;ship 4 9;knows 0 0;knows 0 1").game(0, 1, 3, 0), 9);
            due("nobody else tells", open("bar 9 3;joke 1 1 1;ship 5 9;ship 6 9;ship 7 9;knows 1 0"
                    + ";knows 2 0").game(0, 1, 2, 0), -6);
            BarPilot forced = open("bar 9 3;joke 1 1 1;joke 2 2 2;ship 5 9;ship 6 9;knows 0 1;knows 1 0", "tell 0");
            due("any, whatever the RULE says", forced.game(0, 1, 1, 1), 1);
        });
        test(25, "the first one wants what it EARNS in these less what the other one does to be most, the second "
                + "one least, "
                + "if both do their best: how much;", () -> {
            BarPilot b = open("bar 9 2;joke 3 3 3;joke 1 1 1;joke 1 1 2;ship 10 9;ship 30 9;knows 0 0;knows 0 1"
                    + ";knows 1 2");
            due("1 is like 2, which the other one has", b.game(0, 1, 2, 0), 10);
            due("so it tells 1 rather than 0", b.game(0, 1, 2, 1), 1);
            BarPilot spoil = open("bar 2 3;joke 1 1 1;joke 2 2 2;ship 50 9;ship 4 9;ship 1 1;knows 0 0;knows 1 0"
                    + ";knows 1 1;knows 2 0");
            spoil.say(2, 0);
            due("the second one tells 0 anew, so that it does not fade, rather than have 4", spoil.game(0, 1, 3, 0), 0);
            due("what was EARNED ahead of it does not count", spoil.game(0, 1, 1, 0), 0);
            due("how much", open(TWO).game(0, 1, 2, 0), 30);
        });
    }

    private static void gameByNumbers() {
        test(25, "what the first one TELLS first (the least that does; none ahead of all).", () -> {
            due("of 1 and 2 the least", open("bar 9 3;joke 1 1 1;joke 2 2 2;joke 3 3 3;ship 9 9;ship 4 9;knows 0 1"
                    + ";knows 0 2")
                    .game(0, 1, 1, 1), 1);
            due("none, if nothing is to be had", open("bar 9 3;joke 1 1 1;ship 0 9;ship 4 9"
                    + ";knows 0 0").game(0, 1, 1, 1), NONE);
            BarPilot b = open("bar 2 3;joke 1 1 1;ship 9 9;ship 4 9;ship 1 1;knows 0 0;knows 2 0");
            b.say(2, 0);
            due("none, though 0 would do as well", b.game(0, 1, 3, 1), NONE);
        });
        test(25, "GAME what 0: how much (below 0, too), 1: the JOKE (NONE: none).", () -> {
            due("below 0", open("bar 9 3;joke 1 1 1;ship 9 9;ship 99 9;knows 1 0").game(0, 1, 2, 0), -99);
            due("above 0", open("bar 9 3;joke 1 1 1;ship 99 9;ship 99 9;knows 0 0").game(0, 1, 2, 0), 99);
            due("the JOKE", open(TWO).game(1, 0, 2, 1), 1);
            due("none", open("bar 9 3;joke 1 1 1;ship 9 9;ship 99 9;knows 1 0").game(0, 1, 2, 1), NONE);
        });
        test(25, "-1000 without these (unlike).", () -> {
            BarPilot b = open(TWO);
            due("itself", b.game(0, 0, 1, 0), -1000);
            due("ship 2", b.game(0, 2, 1, 0), -1000);
            due("ship 2", b.game(2, 0, 1, 0), -1000);
            due("ship -1", b.game(-1, 0, 1, 0), -1000);
            due("ship -1", b.game(0, -1, 1, 0), -1000);
            due("n 0", b.game(0, 1, 0, 1), -1000);
            due("n 4", b.game(0, 1, 4, 1), -1000);
            due("what -1", b.game(0, 1, 1, -1), -1000);
            due("what 2", b.game(0, 1, 1, 2), -1000);
            due("no BAR", new BarPilot().game(0, 1, 1, 0), -1000);
        });
    }
}
