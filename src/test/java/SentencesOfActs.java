/** What the pilot remembers, tides and acts: promises 7 to 14, and the terms that they use. */
final class SentencesOfActs extends Sentences {
    /** Five ships and eight jokes, of which none is like another. */
    private static final String FULL = "bar 9 1;joke 0 0 0;joke 1 1 1;joke 2 2 2;joke 3 3 3;joke 4 4 4;joke 5 5 5"
            + ";joke 6 6 6"
            + ";joke 7 7 7;ship 1 1;ship 2 2;ship 3 3;ship 4 4;ship 5 5";

    static void tests() {
        memory();
        telling();
        tidesByHand();
        jokesAndShips();
        sayAndTrade();
        coinAndDull();
        undo();
    }

    private static void memory() {
        test(7, "He REMEMBERS a JOKE that he heard fewer than FADES TIDES ago.", () -> {
            for (int fades : new int[] {1, 2, 3, 59, 60}) {
                BarPilot b = open("bar " + fades + " 1;joke 1 1 1;ship 1 1;knows 0 0");
                due("never heard", b.joke(0, 3), 0);
                b.say(0, 0);
                due("heard 0 ago, FADES " + fades, b.joke(0, 3), 1);
                tides(b, fades - 1);
                due("heard FADES - 1 ago, FADES " + fades, b.joke(0, 3), 1);
                due("as bits", b.count(9), 1);
                b.tide();
                due("heard FADES ago, FADES " + fades, b.joke(0, 3), 0);
                due("as bits", b.count(9), 0);
            }
            BarPilot other = open("bar 2 1;joke 1 1 1;joke 2 2 2;joke 3 3 3;ship 1 1;knows 0 1");
            other.tide();
            due("joke 0, never heard", other.joke(0, 3), 0);
            due("joke 1, heard", other.joke(1, 3), 1);
            due("joke 2, never heard", other.joke(2, 3), 0);
        });
        test(7, "A JOKE is NEW, if LIKE or more of its parts are alike to those of no JOKE that he REMEMBERS", () -> {
            for (int like = 1; like <= 3; like++) {
                BarPilot b = open("bar 2 " + like + ";joke 1 1 1;joke 9 9 9;joke 8 1 8;joke 8 1 1;joke 1 1 1"
                        + ";ship 5 5;knows 0 0");
                due("all are at first", b.fresh(), 31);
                b.say(0, 0);
                for (int joke = 0; joke < 5; joke++) {
                    int alike = new int[] {3, 0, 1, 2, 3}[joke];
                    due("LIKE " + like + ", parts alike " + alike, b.joke(joke, 4), alike >= like ? 0 : 1);
                }
                b.tide();
                due("remembered yet", b.joke(0, 4), 0);
                b.tide();
                due("all are, once it has faded", b.fresh(), 31);
            }
            BarPilot b = open("bar 9 2;joke 1 8 8;joke 9 1 9;joke 1 1 1;ship 5 5;ship 5 5;knows 0 0;knows 1 1");
            b.tide();
            due("one part alike to each of two is not two alike to one", b.joke(2, 4), 1);
            b = open("bar 9 2;joke 1 1 8;joke 9 1 1;joke 1 1 1;ship 5 5;ship 5 5;knows 0 0;knows 1 1");
            b.say(1, 1);
            due("two alike to the second, which alone is remembered", b.joke(2, 4), 0);
        });
        test(7, "(itself, too; SET to SET, TURN to TURN, KIN to KIN).", () -> {
            BarPilot b = open("bar 9 3;joke 1 2 3;joke 3 1 2;joke 2 3 1;joke 1 2 4;ship 5 5;knows 0 0");
            b.say(0, 0);
            due("itself is not NEW", b.joke(0, 4), 0);
            due("others with LIKE 3", b.fresh(), 14);
            b = open("bar 9 1;joke 1 2 3;joke 3 1 2;joke 1 9 9;joke 9 2 9;joke 9 9 3;ship 5 5;knows 0 0");
            b.say(0, 0);
            due("the same parts elsewhere are not alike; SET, TURN, KIN are", b.fresh(), 2);
        });
    }

    private static void telling() {
        test(10, "A SHIP that WAITS TELLS a JOKE: if it is NEW, it has PASSED on this TIDE, and EARNED CARGO, "
                + "if TIDE is KEEPS or less (else nothing);", () -> {
            for (int tide = 0; tide <= 3; tide++) {
                BarPilot b = tides(open("bar 1 1;joke 1 1 1;ship 7 2;knows 0 0", "tell 0"), tide);
                due("say on TIDE " + tide, b.say(0, 0), 1);
                due("it PASSED on", b.ship(0, 3), tide);
                due("EARNED on TIDE " + tide, b.count(7), tide <= 2 ? 7 : 0);
                due("it does not WAIT", b.count(8), 0);
            }
            BarPilot b = open("bar 3 1;joke 1 1 1;ship 7 2;ship 8 2;knows 0 0;knows 1 0");
            b.say(0, 0);
            due("not NEW", b.say(1, 0), 0);
            due("it WAITS", b.ship(1, 3), NONE);
            due("EARNED by the first alone", b.count(7), 7);
        });
        test(10, "he has heard it on this TIDE, NEW or not.", () -> {
            BarPilot b = open("bar 3 1;joke 1 1 1;joke 2 1 2;ship 7 2;ship 8 2;knows 0 0;knows 1 0"
                    + ";knows 1 1", "tell 0");
            b.say(0, 0);
            due("NEW", b.joke(0, 5), 0);
            tides(b, 2);
            due("two ago", b.joke(0, 5), 2);
            b.say(1, 0);
            due("not NEW: heard now", b.joke(0, 5), 0);
            due("like it, not NEW", b.say(1, 1), 0);
            due("heard now", b.joke(1, 5), 0);
            tides(b, 2);
            due("so it is remembered for longer", b.count(9), 3);
        });
    }

    private static void tidesByHand() {
        test(9, "A TIDE: SHIPS that WAIT, by numbers, each by how all is then,", () -> {
            BarPilot b = open("bar 9 3;joke 1 1 1;joke 2 2 2;ship 1 1;ship 2 2;ship 3 3;knows 0 0;knows 1 0"
                    + ";knows 2 0;knows 2 1");
            due("0 is first; 1 finds it heard, 2 has another", b.tide(), 5);
            due("who is past tells no more", b.tide(), 0);
            due("and nothing was heard anew", b.joke(0, 5), 2);
            b = open("bar 9 3;joke 1 1 1;joke 2 2 2;ship 1 1;ship 2 2;knows 0 0;knows 1 0;knows 1 1",
                    "tell 1 if ship=0;tell 1+joke if passed=1 and waiting=1 and since=99;tell 1 if joke=0");
            due("by how all is when it tells", b.tide(), 3);
            due("it told 1", b.count(9), 3);
        });
        test(9, "TELL of the JOKES they KNOW that for which the SUM of the RULE IN FORCE's first CLAUSE without a "
                + "TEST, "
                + "or whose TEST holds (0 without),", () -> {
            String bar = "bar 9 3;joke 0 0 0;joke 1 1 1;joke 2 2 2;joke 3 3 3;ship 1 1;knows 0 0;knows 0 1;knows 0 2";
            due("one not KNOWN", open(bar, "tell 9 if joke=3;tell 1 if joke=1").over(0, 1), 1);
            due("the first whose TEST holds", open(bar, "tell 1 if joke=0;tell 5 if joke=0"
                    + ";tell 2 if joke=1").over(0, 1), 1);
            due("one without a TEST hides those behind", open(bar, "tell 3-joke;tell 9 if joke=2").over(0, 1), 0);
            due("the last one", open(bar, times("tell 1 if 2<1;", 11) + "tell joke").over(0, 1), 2);
            due("0 without such a CLAUSE", open(bar, "tell 9 if joke=3").tide(), 0);
            BarPilot b = open(bar, "tell 0 if joke<2;tell 9 if joke=0;tell 1");
            due("a first CLAUSE of 0 counts", b.over(0, 1), 2);
        });
        test(9, "is greatest, if it is above 0, of several the least (none, if none is such);", () -> {
            String bar = "bar 9 3;joke 0 0 0;joke 1 1 1;joke 2 2 2;ship 1 1;knows 0 0;knows 0 1;knows 0 2";
            due("greatest", open(bar, "tell 5+joke").over(0, 1), 2);
            due("1 is above 0", open(bar, "tell 1 if joke=1").over(0, 1), 1);
            due("of several the least", open(bar, "tell 5").over(0, 1), 0);
            due("of several the least", open(bar, "tell 5 if joke>0;tell 4").over(0, 1), 1);
            BarPilot none = open(bar, "tell 0");
            due("0 is not", none.tide(), 0);
            due("none was heard", none.count(9), 0);
            due("TIDE is 1 more all the same", none.count(6), 1);
            BarPilot below = open(bar, "tell 0-1-joke");
            due("below 0 is not", below.tide(), 0);
            due("none was heard", below.count(9), 0);
            due("a ship without jokes", open("bar 9 3;joke 0 0 0;ship 1 1", "tell 5").tide(), 0);
        });
        test(9, "without a RULE the least one that is NEW.", () -> {
            BarPilot b = open("bar 9 2;joke 1 1 1;joke 1 1 2;joke 3 3 3;joke 4 4 4;ship 1 1;ship 2 2;ship 3 3"
                    + ";knows 0 0;knows 1 0;knows 1 1;knows 1 2;knows 1 3;knows 2 0;knows 2 1");
            due("2 finds none that is NEW", b.tide(), 3);
            due("0 and 2 were heard", b.count(9), 5);
            b.tide();
            due("2 tells none", b.joke(0, 5), 2);
            BarPilot forced = open("bar 9 2;joke 1 1 1;ship 1 1;knows 0 0", "tell 0");
            due("by a rule none", forced.tide(), 0);
            forced.force(NONE);
            due("without it", forced.tide(), 1);
        });
        test(9, "TIDE is 1 more (999 at most).", () -> {
            BarPilot b = open("bar 1 1");
            for (int tide = 1; tide <= 500; tide++) {
                b.tide();
            }
            due("count(6)", b.count(6), 500);
            // An object is not used for so many calls; the sentence can be seen in no other way.
            tides(b, 499);
            due("count(6)", b.count(6), 999);
            tides(b, 2);
            due("count(6)", b.count(6), 999);
        });
        test(9, "A TIDE: who PASSES on it, as bits;", () -> {
            BarPilot b = open(QUEUE);
            due("tide 0", b.tide(), 1);
            due("tide 1", b.tide(), 0);
            due("tide 2", b.tide(), 2);
            due("tide 3", b.tide(), 0);
            due("tide 4", b.tide(), 4);
            due("tide 5, nobody WAITS", b.tide(), 0);
            BarPilot five = open(FULL + ";knows 0 0;knows 1 1;knows 2 2;knows 3 3;knows 4 4");
            due("all five", five.tide(), 31);
            due("no SHIPS", open("bar 1 1;joke 1 1 1").tide(), 0);
        });
        test(9, "NONE, and nothing happens, without a BAR, or at TIDE 999.", () -> {
            BarPilot none = new BarPilot();
            nothingHappens(none, () -> due("without a BAR", none.tide(), NONE));
            // So many calls are more than one object is used for; the sentence can be seen in no other way.
            BarPilot b = open("bar 1 1;joke 1 1 1;ship 1 1;knows 0 0", "tell 1 if tide=999");
            for (int tide = 0; tide < 999; tide++) {
                due("tide " + tide, b.tide(), 0);
            }
            nothingHappens(b, () -> due("at TIDE 999", b.tide(), NONE));
            due("count(6)", b.count(6), 999);
            due("ahead it goes on beyond", b.ahead(0, 1, 0), 999);
            b.undo();
            due("from 998 on", b.tide(), 0);
        });
    }

    private static void jokesAndShips() {
        test(7, "Of a JOKE what 0: SET, 1: TURN, 2: KIN, 3: 1 if he REMEMBERS it, else 0, 4: 1 if it is NEW, else "
                + "0,", () -> {
            BarPilot b = open("bar 3 2;joke 7 8 9;joke 7 8 0;joke 1 2 3;ship 1 1;knows 0 0");
            b.say(0, 0);
            int[][] want = {{7, 8, 9, 1, 0}, {7, 8, 0, 0, 0}, {1, 2, 3, 0, 1}};
            for (int joke = 0; joke < 3; joke++) {
                for (int what = 0; what < 5; what++) {
                    due("joke(" + joke + ", " + what + ")", b.joke(joke, what), want[joke][what]);
                }
            }
        });
        test(7, "5: TIDES since he heard it (99 at most, or never).", () -> {
            BarPilot b = open("bar 3 1;joke 1 1 1;joke 2 2 2;ship 1 1;knows 0 0");
            b.say(0, 0);
            due("now", b.joke(0, 5), 0);
            tides(b, 98);
            due("98", b.joke(0, 5), 98);
            b.tide();
            due("99", b.joke(0, 5), 99);
            b.tide();
            due("100", b.joke(0, 5), 99);
            due("never", b.joke(1, 5), 99);
        });
        test(7, "NONE without these.", () -> {
            BarPilot b = open(TWO);
            due("what -1", b.joke(0, -1), NONE);
            due("what 6", b.joke(0, 6), NONE);
            due("joke 3", b.joke(3, 0), NONE);
            due("joke -1", b.joke(-1, 0), NONE);
            due("joke most", b.joke(Integer.MAX_VALUE, 0), NONE);
            due("joke least", b.joke(Integer.MIN_VALUE, 5), NONE);
            due("no JOKES", open("bar 1 1;ship 1 1").joke(0, 0), NONE);
            due("joke 8 of 8", open(FULL).joke(8, 0), NONE);
            due("no BAR", new BarPilot().joke(0, 5), NONE);
        });
        test(8, "Of a SHIP what 0: CARGO, 1: KEEPS, 2: JOKES it KNOWS, as bits, 3: on which TIDE it PASSED (NONE: "
                + "it WAITS).", () -> {
            BarPilot b = open("bar 3 1;joke 1 1 1;joke 2 2 2;joke 3 3 3;ship 98 59;ship 97 58;knows 0 0;knows 0 2"
                    + ";knows 1 0");
            tides(b, 2);
            int[][] want = {{98, 59, 5, 0}, {97, 58, 1, NONE}};
            for (int ship = 0; ship < 2; ship++) {
                for (int what = 0; what < 4; what++) {
                    due("ship(" + ship + ", " + what + ")", b.ship(ship, what), want[ship][what]);
                }
            }
            tides(b, 2);
            due("ship(1, 3)", b.ship(1, 3), 3);
            due("none KNOWN", open("bar 1 1;joke 1 1 1;ship 1 1").ship(0, 2), 0);
            due("all KNOWN", open("bar 1 1;joke 1 1 1;joke 1 1 1;joke 1 1 1;joke 1 1 1;joke 1 1 1;joke 1 1 1;joke 1 1 1"
                    + ";joke 1 1 1;ship 1 1;knows 0 0;knows 0 1;knows 0 2;knows 0 3;knows 0 4;knows 0 5;knows 0 6"
                    + ";knows 0 7")
                    .ship(0, 2), 255);
        });
        test(8, "-2 without these.", () -> {
            BarPilot b = open(TWO);
            due("what -1", b.ship(0, -1), -2);
            due("what 4", b.ship(0, 4), -2);
            due("ship 2", b.ship(2, 0), -2);
            due("ship -1", b.ship(-1, 0), -2);
            due("ship most", b.ship(Integer.MAX_VALUE, 0), -2);
            due("ship least", b.ship(Integer.MIN_VALUE, 3), -2);
            due("ship 5 of 5", open(FULL).ship(5, 0), -2);
            due("no SHIPS", open("bar 1 1;joke 1 1 1").ship(0, 0), -2);
            due("no BAR", new BarPilot().ship(0, 3), -2);
        });
    }

    private static void sayAndTrade() {
        test(10, "SAY (a SHIP that WAITS TELLS a JOKE that it KNOWS; TIDE stays);", () -> {
            BarPilot b = tides(open(TWO, "tell 0"), 2);
            due("say(1, 2)", b.say(1, 2), 1);
            due("TIDE", b.count(6), 2);
            due("one ACT more", b.count(11), 3);
            due("nobody else tells", b.count(9), 4);
        });
        test(10, "SAY: 1 if it has PASSED, else 0;", () -> {
            BarPilot b = open(TWO);
            due("NEW", b.say(1, 1), 1);
            due("like it", b.say(0, 0), 0);
            due("told again", b.say(0, 0), 0);
        });
        test(10, "NONE, and nothing happens, without these.", () -> {
            BarPilot b = open(TWO);
            b.say(1, 1);
            nothingHappens(b, () -> {
                due("a SHIP that has PASSED", b.say(1, 2), NONE);
                due("a JOKE that it does not KNOW", b.say(0, 1), NONE);
                due("joke 3", b.say(0, 3), NONE);
                due("joke -1", b.say(0, -1), NONE);
                due("joke 32", b.say(0, 32), NONE);
                due("ship 2", b.say(2, 0), NONE);
                due("ship -1", b.say(-1, 0), NONE);
                due("ship most", b.say(Integer.MAX_VALUE, 0), NONE);
                due("joke least", b.say(0, Integer.MIN_VALUE), NONE);
            });
            BarPilot none = new BarPilot();
            nothingHappens(none, () -> due("no BAR", none.say(0, 0), NONE));
        });
        test(11, "TRADE (two SHIPS that WAIT, of which one at least KNOWS one the other does not: both KNOW all of "
                + "both then);", () -> {
            BarPilot b = open("bar 9 1;joke 1 1 1;joke 2 2 2;joke 3 3 3;ship 1 1;ship 2 2;ship 3 3;ship 4 4"
                    + ";knows 0 0;knows 1 0;knows 1 1;knows 3 2");
            due("the first KNOWS fewer", b.trade(0, 1), 3);
            due("ship(0, 2)", b.ship(0, 2), 3);
            due("ship(1, 2)", b.ship(1, 2), 3);
            due("the other KNOWS none", b.trade(0, 2), 3);
            due("the first KNOWS none that the other does, and the other way", b.trade(3, 0), 7);
            due("ship(3, 2)", b.ship(3, 2), 7);
            due("ship(0, 2)", b.ship(0, 2), 7);
            due("ship(1, 2) is left out", b.ship(1, 2), 3);
            due("TIDE stays", b.count(6), 0);
            due("ACTS", b.count(11), 3);
        });
        test(11, "TRADE: JOKES both KNOW then, as bits;", () -> {
            due("trade(0, 1)", open(TWO).trade(0, 1), 7);
            due("trade(1, 0)", open(TWO).trade(1, 0), 7);
        });
        test(11, "NONE, and nothing happens, without these (unlike).", () -> {
            BarPilot b = open(TWO + ";ship 1 1;ship 1 1;ship 1 1;knows 2 0");
            b.say(1, 2);
            nothingHappens(b, () -> {
                due("one that has PASSED", b.trade(0, 1), NONE);
                due("one that has PASSED", b.trade(1, 0), NONE);
                due("both KNOW the same", b.trade(0, 2), NONE);
                due("both KNOW none", b.trade(3, 4), NONE);
                due("itself", b.trade(0, 0), NONE);
                due("ship 5", b.trade(0, 5), NONE);
                due("ship -1", b.trade(-1, 0), NONE);
                due("ship -1", b.trade(0, -1), NONE);
                due("ship most", b.trade(Integer.MAX_VALUE, 0), NONE);
            });
            BarPilot none = new BarPilot();
            nothingHappens(none, () -> due("no BAR", none.trade(0, 1), NONE));
        });
    }

    private static void coinAndDull() {
        test(12, "COIN (a SHIP that WAITS KNOWS a JOKE more);", () -> {
            BarPilot b = open(FULL);
            for (int joke = 7; joke >= 0; joke--) {
                b.coin(4, joke);
                due("ship(4, 2)", b.ship(4, 2), 256 - (1 << joke));
            }
            due("others do not", b.ship(3, 2), 0);
            due("TIDE stays", b.count(6), 0);
            due("ACTS", b.count(11), 8);
        });
        test(12, "COIN: JOKES it KNOWS then, as bits;", () -> {
            BarPilot b = open(TWO);
            due("coin(0, 2)", b.coin(0, 2), 5);
            due("coin(0, 1)", b.coin(0, 1), 7);
        });
        test(12, "NONE, and nothing happens, without these (one it did not KNOW).", () -> {
            BarPilot b = open(TWO);
            b.say(1, 1);
            nothingHappens(b, () -> {
                due("one it KNOWS", b.coin(0, 0), NONE);
                due("a SHIP that has PASSED", b.coin(1, 0), NONE);
                due("joke 3", b.coin(0, 3), NONE);
                due("joke -1", b.coin(0, -1), NONE);
                due("joke 33", b.coin(0, 33), NONE);
                due("ship 2", b.coin(2, 0), NONE);
                due("ship -1", b.coin(-1, 0), NONE);
                due("joke most", b.coin(0, Integer.MAX_VALUE), NONE);
            });
            BarPilot none = new BarPilot();
            nothingHappens(none, () -> due("no BAR", none.coin(0, 0), NONE));
        });
        test(13, "DULL (he REMEMBERS a JOKE: it is as if he had never heard it).", () -> {
            BarPilot b = open("bar 9 2;joke 1 1 1;joke 1 1 2;joke 3 3 3;ship 1 1;ship 2 2;knows 0 0;knows 1 2");
            tides(b, 3);
            due("heard", b.count(9), 5);
            b.dull(0);
            due("he does not REMEMBER it", b.count(9), 4);
            due("never heard", b.joke(0, 5), 99);
            due("it and what is like it is NEW", b.fresh(), 3);
            due("who has PASSED has", b.ship(0, 3), 0);
            due("EARNED stays", b.count(7), 3);
            due("TIDE stays", b.count(6), 3);
            due("ACTS", b.count(11), 4);
        });
        test(13, "DULL: how many TIDES ago he heard it;", () -> {
            BarPilot b = open("bar 60 1;joke 1 1 1;joke 2 2 2;ship 1 1;ship 2 2;knows 0 0;knows 1 1", "tell 0");
            b.say(0, 0);
            tides(b, 59);
            b.say(1, 1);
            due("59", b.dull(0), 59);
            due("0", b.dull(1), 0);
        });
        test(13, "NONE, and nothing happens, without these.", () -> {
            BarPilot b = open("bar 2 1;joke 1 1 1;joke 2 2 2;joke 3 3 3;ship 1 1;ship 2 2;knows 0 0"
                    + ";knows 1 1", "tell 0");
            b.say(0, 0);
            b.tide();
            b.say(1, 1);
            b.tide();
            nothingHappens(b, () -> {
                due("FADES ago", b.dull(0), NONE);
                due("never heard", b.dull(2), NONE);
                due("joke 3", b.dull(3), NONE);
                due("joke -1", b.dull(-1), NONE);
                due("joke 33", b.dull(33), NONE);
                due("joke least", b.dull(Integer.MIN_VALUE), NONE);
            });
            due("FADES - 1 ago", b.dull(1), 1);
            due("DULLED already", b.dull(1), NONE);
            BarPilot none = new BarPilot();
            nothingHappens(none, () -> due("no BAR", none.dull(0), NONE));
        });
    }

    private static void undo() {
        test(14, "ACTS: a TIDE;", () -> {
            BarPilot b = open(TWO, "tell 1");
            b.tide();
            due("a TIDE is one", b.count(11), 1);
            b.force(NONE);
            b.seed(4);
            b.note(0, 0, 0);
            b.image(0);
            b.ahead(0, 5, 1);
            put(b, "tell 2");
            b.rule();
            due("others are none", b.count(11), 1);
            due("undo()", b.undo(), 0);
            due("SHIPS that WAIT", b.count(8), 3);
            due("EARNED", b.count(7), 0);
            due("REMEMBERED", b.count(9), 0);
            due("TIDE", b.count(6), 0);
            due("what no ACT did stays: force", b.count(5), NONE);
            due("x", b.count(12), 4);
            due("NOTES", b.count(10), 1);
            due("RULES", b.count(4), 2);
        });
        test(14, "The last 20 ACTS can be UNDONE, the last first.", () -> {
            BarPilot b = open(FULL, "tell 0");
            for (int i = 0; i < 20; i++) {
                b.tide();
                due("ACTS", b.count(11), i + 1);
            }
            b.coin(0, 3);
            due("20 at most", b.count(11), 20);
            b.say(0, 3);
            b.dull(3);
            b.coin(2, 5);
            b.trade(1, 2);
            due("20 at most", b.count(11), 20);
            due("trade", b.undo(), 19);
            due("ship(1, 2)", b.ship(1, 2), 0);
            due("coin", b.undo(), 18);
            due("ship(2, 2)", b.ship(2, 2), 0);
            due("dull", b.undo(), 17);
            due("REMEMBERED", b.count(9), 8);
            due("say", b.undo(), 16);
            due("it WAITS", b.ship(0, 3), NONE);
            due("REMEMBERED", b.count(9), 0);
            due("coin", b.undo(), 15);
            due("ship(0, 2)", b.ship(0, 2), 0);
            for (int left = 14; left >= 0; left--) {
                due("tide", b.undo(), left);
            }
            due("no more than 20", b.undo(), -2);
            due("TIDE, of 20 the first five stay", b.count(6), 5);
            for (int i = 0; i < 3; i++) {
                b.tide();
            }
            due("new ones can", b.undo(), 2);
            due("TIDE", b.count(6), 7);
        });
        test(14, "The last ACT is UNDONE: how many more can be;", () -> {
            BarPilot b = open(TWO);
            b.coin(0, 1);
            b.coin(0, 2);
            due("one more", b.undo(), 1);
            due("ship(0, 2)", b.ship(0, 2), 3);
            due("none more", b.undo(), 0);
            due("ship(0, 2)", b.ship(0, 2), 1);
        });
        test(14, "-2, and nothing happens: none can.", () -> {
            BarPilot b = open(TWO);
            nothingHappens(b, () -> due("none yet", b.undo(), -2));
            b.tide();
            b.undo();
            nothingHappens(b, () -> due("UNDONE already", b.undo(), -2));
            BarPilot none = new BarPilot();
            nothingHappens(none, () -> due("no BAR", none.undo(), -2));
        });
    }
}
