/** The tape and the text of a bar: promises 1 to 4, and the terms that they use. */
final class SentencesOfBars extends Sentences {
    private static final String FORTY = "bar 1 1;ship 1 1;joke 1 1 1" + times(";knows0 0", 37);

    static void tests() {
        aNewObject();
        theTape();
        clauses();
        numbers();
        whatIsTold();
        faults();
        theCall();
    }

    private static void aNewObject() {
        test(1, "No BAR,", () -> {
            BarPilot b = new BarPilot();
            due("tide()", b.tide(), NONE);
            due("fresh()", b.fresh(), NONE);
            due("least()", b.least(), NONE);
            due("ahead(0, 0, 1)", b.ahead(0, 0, 1), -2);
            due("ruled(0)", b.ruled(0), -3);
            due("joke(0, 0)", b.joke(0, 0), NONE);
            due("ship(0, 0)", b.ship(0, 0), -2);
            for (int what = 0; what <= 3; what++) {
                due("count(" + what + ")", b.count(what), 0);
            }
            for (int what = 6; what <= 13; what++) {
                due("count(" + what + ")", b.count(what), 0);
            }
        });
        test(1, "no RULES, none IN FORCE.", () -> {
            BarPilot b = new BarPilot();
            due("count(4)", b.count(4), 0);
            due("force(0)", b.force(0), -2);
            due("count(5)", b.count(5), NONE);
            due("force(NONE)", b.force(NONE), NONE);
        });
        test(1, "An object is used for at most 512 calls after it has been made;", () -> {
            BarPilot b = new BarPilot();
            for (int call = 1; call < 512; call++) {
                b.seed(call);
            }
            due("the 512th", b.count(12), 511);
        });
        test(1, "The constants: `NONE = -1`: None.", () -> due("the constant", BarPilot.NONE, -1));
    }

    private static void theTape() {
        test(2, "Twenty bytes come behind the TAPE, of each number the highest first", () -> {
            BarPilot b = new BarPilot();
            b.feed(0x62617220, 0x37203220, 0x20202020, 0x20202020, 0x2020203b);
            b.feed(0x73686970, 0x20383920, 0x3630ffff, -1, -1);
            b.end(30);
            due("bar() of bar 7 2 and ship 89 60", b.bar(), 1);
            due("FADES", b.count(0), 7);
            due("LIKE", b.count(1), 2);
            due("CARGO", b.ship(0, 0), 89);
            due("KEEPS", b.ship(0, 1), 60);
            b.feed(0x62617220, 0x31203120, 0x20202020, 0x20202020, 0x20202080);
            due("the highest byte 128, the last one", b.bar(), fault(19, 0));
        });
        test(2, "how many it has", () -> {
            BarPilot b = new BarPilot();
            due("feed", b.feed(0, 0, 0, 0, 0), 20);
            due("feed", b.feed(-1, -1, -1, -1, -1), 40);
            b.end(7);
            due("feed behind 7", b.feed(1, 2, 3, 4, 5), 27);
        });
        test(2, "NONE, and none comes, if it would have more than 400.", () -> {
            BarPilot b = new BarPilot();
            for (int i = 1; i <= 20; i++) {
                due("feed", b.feed(0x20202020, 0x20202020, 0x20202020, 0x20202020, 0x20202020), 20 * i);
            }
            due("feed on 400", b.feed(0, 0, 0, 0, 0), NONE);
            due("count(13)", b.count(13), 400);
            b.end(381);
            due("feed on 381", b.feed(0x30303030, 0x30303030, 0x30303030, 0x30303030, 0x30303030), NONE);
            due("count(13)", b.count(13), 381);
            due("no byte came: the end", b.rule(), fault(381, 0));
            for (int i = 0; i < 20; i++) {
                b.feed(0x20202020, 0x20202020, 0x20202020, 0x20202020, 0x20202020);
            }
            b.end(380);
            due("feed on 380", b.feed(0x20202020, 0x20202020, 0x20202020, 0x20202020, 0x2020203b), 400);
            due("the last byte came", b.bar(), fault(399, 0));
        });
        test(3, "The TAPE has its first n bytes alone: n", () -> {
            BarPilot b = new BarPilot();
            b.feed(0x62617220, 0x35203131, 0x31313131, 0, 0);
            due("end(20), all", b.end(20), 20);
            due("end(7)", b.end(7), 7);
            due("count(13)", b.count(13), 7);
            due("bar() of bar 5 1", b.bar(), 0);
            due("FADES", b.count(0), 5);
            b.feed(0x62617220, 0x36203131, 0, 0, 0);
            due("end(0)", b.end(0), 0);
            due("bar() of nothing", b.bar(), fault(0, 0));
            due("end(0) of none", b.end(0), 0);
            String[] cut = {"tell 1 if 1<|=2", "tell 1 if 1>|=2", "tell 1+|1", "tell 1;|tell 1", "tell 1 if 1<2 or not|t", "tell |1"};
            for (String text : cut) {
                int place = text.indexOf('|');
                put(b, text.replace("|", ""));
                b.end(place);
                due("rule() of " + text, b.rule(), fault(place, 0));
            }
            put(b, "tell 123456");
            b.end(10);
            due("five digits of six", b.rule(), 0);
            put(b, "tell shipz");
            b.end(9);
            due("a WORD, and what came behind it", b.rule(), 1);
        });
        test(3, "NONE, and nothing happens, if it has not so many, or n is below 0.", () -> {
            BarPilot b = new BarPilot();
            due("end(1) of none", b.end(1), NONE);
            due("end(-1) of none", b.end(-1), NONE);
            b.feed(1, 2, 3, 4, 5);
            nothingHappens(b, () -> {
                due("end(21)", b.end(21), NONE);
                due("end(-1)", b.end(-1), NONE);
                due("end(least)", b.end(Integer.MIN_VALUE), NONE);
                due("end(most)", b.end(Integer.MAX_VALUE), NONE);
            });
            b.end(3);
            due("end(4) of 3: what was cut is gone", b.end(4), NONE);
            due("count(13)", b.count(13), 3);
        });
    }

    private static void clauses() {
        test(4, "A BAR is a text of at most 400 bytes", () -> {
            String bar = "bar 1 1;ship 7 8";
            dueBar(bar + times(" ", 400 - bar.length()), 1);
            dueBar(bar + times(" ", 399 - bar.length()) + "?", fault(399, 0));
            dueBar(bar + times(" ", 399 - bar.length()) + ";", fault(400, 0));
        });
        test(4, "CLAUSE { ; CLAUSE }, 40 at most:", () -> {
            dueBar(FORTY, 1);
            dueBar(FORTY + ";knows 0 0", fault(FORTY.length() + 1, 4));
            dueBar("bar 1 1", 0);
            dueBar("bar 1 1;", fault(8, 0));
            dueBar(";bar 1 1", fault(0, 0));
            dueBar("bar 1 1;;ship 1 1", fault(8, 0));
            dueBar("bar 1 1 ship 1 1", fault(8, 0));
            dueBar("bar 1 1,ship 1 1", fault(7, 0));
        });
        test(4, "once, the first CLAUSE)", () -> {
            dueBar("bar 1 1;bar 1 1", fault(8, 4));
            dueBar("bar 1 1;ship 1 1;bar 1 1", fault(17, 4));
            dueBar("joke 1 1 1;bar 1 1", fault(0, 4));
            dueBar("ship 1 1", fault(0, 4));
            dueBar("knows 0 0;bar 1 1", fault(0, 4));
        });
        test(4, "JOKES 0 to 7,", () -> {
            String eight = "bar 1 1;joke 0 0 0;joke 1 1 1;joke 2 2 2;joke 3 3 3;joke 4 4 4;joke 5 5 5;joke 6 6 6"
                    + ";joke 7 8 9";
            BarPilot b = open(eight + ";ship 1 1;knows 0 7");
            due("count(2)", b.count(2), 8);
            due("joke(7, 0)", b.joke(7, 0), 7);
            due("joke(7, 1)", b.joke(7, 1), 8);
            due("joke(7, 2)", b.joke(7, 2), 9);
            due("joke(8, 0)", b.joke(8, 0), NONE);
            due("ship(0, 2)", b.ship(0, 2), 128);
            dueBar(eight + ";joke 0 0 0", fault(eight.length() + 1, 4));
            dueBar(eight + ";ship 1 1;joke 0 0 0", fault(eight.length() + 10, 4));
            dueBar(eight + ";ship 1 1;knows 0 8", fault(eight.length() + 18, 1));
            due("without one", open("bar 1 1;ship 1 1").count(2), 0);
        });
        test(4, "SHIPS 0 to 4, in the order told.", () -> {
            String five = "bar 1 1;ship 10 1;ship 11 2;ship 12 3;ship 13 4;ship 14 5";
            BarPilot b = open(five + ";joke 5 6 7;joke 8 9 0;knows 4 1");
            due("count(3)", b.count(3), 5);
            for (int ship = 0; ship <= 4; ship++) {
                due("ship(" + ship + ", 0)", b.ship(ship, 0), 10 + ship);
                due("ship(" + ship + ", 1)", b.ship(ship, 1), 1 + ship);
                due("ship(" + ship + ", 2)", b.ship(ship, 2), ship == 4 ? 2 : 0);
            }
            due("joke(0, 0)", b.joke(0, 0), 5);
            due("joke(1, 0)", b.joke(1, 0), 8);
            due("ship(5, 0)", b.ship(5, 0), -2);
            dueBar(five + ";ship 1 1", fault(five.length() + 1, 4));
            dueBar(five + ";joke 1 1 1;ship 1 1", fault(five.length() + 12, 4));
            dueBar(five + ";joke 1 1 1;knows 5 0", fault(five.length() + 18, 1));
            dueBar("bar 1 1;joke 1 1 1", 0);
        });
    }

    private static void numbers() {
        test(4, "bar NUMBER NUMBER (FADES 1 to 60, so many TIDES he remembers;", () -> {
            dueBar("bar 0 1", fault(4, 1));
            dueBar("bar 1 1", 0);
            dueBar("bar 60 1", 0);
            dueBar("bar 61 1", fault(4, 1));
            dueBar("bar 99999 1", fault(4, 1));
            dueBar("bar", fault(3, 0));
            dueBar("bar 1", fault(5, 0));
            dueBar("bar 1 1 1", fault(8, 0));
            BarPilot b = open("bar 60 1;joke 1 1 1;ship 1 1;knows 0 0");
            due("FADES", b.count(0), 60);
            tides(b, 60);
            due("on TIDE 60, heard 60 ago", b.joke(0, 3), 0);
            b.undo();
            due("on TIDE 59, heard 59 ago", b.joke(0, 3), 1);
        });
        test(4, "LIKE 1 to 3, so many parts alike are like;", () -> {
            dueBar("bar 1 0", fault(6, 1));
            dueBar("bar 1 4", fault(6, 1));
            dueBar("bar 1 ;", fault(6, 0));
            for (int like = 1; like <= 3; like++) {
                BarPilot b = open("bar 9 " + like + ";joke 1 1 1;joke 2 1 2;joke 2 1 1;joke 1 1 1;ship 1 1;knows 0 0");
                due("LIKE", b.count(1), like);
                b.say(0, 0);
                due("new ones with LIKE " + like, b.fresh(), new int[] {0, 0, 2, 6}[like]);
            }
        });
        test(4, "joke NUMBER NUMBER NUMBER (its SET, TURN, KIN, each 0 to 9)", () -> {
            BarPilot b = open("bar 1 1;joke 0 0 0;joke 9 9 9;joke 7 8 9");
            for (int part = 0; part < 3; part++) {
                due("joke(0, " + part + ")", b.joke(0, part), 0);
                due("joke(1, " + part + ")", b.joke(1, part), 9);
                due("joke(2, " + part + ")", b.joke(2, part), 7 + part);
            }
            dueBar("bar 1 1;joke 10 0 0", fault(13, 1));
            dueBar("bar 1 1;joke 0 10 0", fault(15, 1));
            dueBar("bar 1 1;joke 0 0 10", fault(17, 1));
            dueBar("bar 1 1;joke 0 0", fault(16, 0));
            dueBar("bar 1 1;joke 0 0 0 0", fault(19, 0));
            dueBar("bar 1 1;joke 0 -1 0", fault(15, 0));
        });
        test(4, "ship NUMBER NUMBER (CARGO 0 to 99;", () -> {
            due("CARGO", open("bar 1 1;ship 0 0").ship(0, 0), 0);
            due("CARGO", open("bar 1 1;ship 99 0").ship(0, 0), 99);
            dueBar("bar 1 1;ship 100 0", fault(13, 1));
            dueBar("bar 1 1;ship 0", fault(14, 0));
            dueBar("bar 1 1;ship 0 0 0", fault(17, 0));
            BarPilot b = open("bar 1 1;joke 1 1 1;ship 99 0;knows 0 0");
            b.tide();
            due("EARNED", b.count(7), 99);
        });
        test(4, "KEEPS 0 to 60, the last TIDE on which it is worth anything)", () -> {
            due("KEEPS", open("bar 1 1;ship 0 0").ship(0, 1), 0);
            due("KEEPS", open("bar 1 1;ship 0 60").ship(0, 1), 60);
            dueBar("bar 1 1;ship 0 61", fault(15, 1));
            String bar = "bar 1 1;joke 1 1 1;ship 7 0;ship 8 60;knows 0 0;knows 1 0";
            BarPilot b = open(bar, "tell 0");
            b.say(0, 0);
            due("KEEPS 0 on TIDE 0", b.count(7), 7);
            b = tides(open(bar, "tell 0"), 1);
            b.say(0, 0);
            due("KEEPS 0 on TIDE 1", b.count(7), 0);
            b = tides(open(bar, "tell 0"), 60);
            b.say(1, 0);
            due("KEEPS 60 on TIDE 60", b.count(7), 8);
            b = tides(open(bar, "tell 0"), 61);
            b.say(1, 0);
            due("KEEPS 60 on TIDE 61", b.count(7), 0);
            due("it is past all the same", b.ship(1, 3), 61);
        });
    }

    private static void whatIsTold() {
        test(4, "knows NUMBER NUMBER (a SHIP, a JOKE that were told;", () -> {
            String bar = "bar 1 1;joke 1 1 1;joke 2 2 2;ship 1 1;ship 2 2";
            due("the last ones", open(bar + ";knows 1 1").ship(1, 2), 2);
            dueBar(bar + ";knows 2 0", fault(bar.length() + 7, 1));
            dueBar(bar + ";knows 0 2", fault(bar.length() + 9, 1));
            dueBar(bar + ";knows 0 2;joke 3 3 3", fault(bar.length() + 9, 1));
            dueBar(bar + ";knows 2 0;ship 3 3", fault(bar.length() + 7, 1));
            dueBar(bar + ";knows 0 1;joke 3 3 3;knows 0 2;ship 3 3;knows 2 0", 3);
            dueBar("bar 1 1;joke 1 1 1;knows 0 0", fault(25, 1));
            dueBar("bar 1 1;ship 1 1;knows 0 0", fault(25, 1));
            dueBar("bar 1 1;knows 0 0", fault(14, 1));
            dueBar(bar + ";knows 0", fault(bar.length() + 8, 0));
            dueBar(bar + ";knows 0 1 1", fault(bar.length() + 11, 0));
        });
        test(4, "told already: nothing new).", () -> {
            String bar = "bar 1 1;joke 1 1 1;joke 2 2 2;ship 1 1;knows 0 0";
            due("three times", open(bar + ";knows 0 0;knows 0 0").ship(0, 2), 1);
            due("another behind it", open(bar + ";knows 0 0;knows 0 1;knows 0 0").ship(0, 2), 3);
        });
        test(4, "It is TIDE 0; he has heard none, all SHIPS WAIT.", () -> {
            BarPilot b = open(TWO);
            b.tide();
            due("by then", b.count(6) + b.count(9) + b.count(7), 1 + 5 + 70);
            due("bar() anew", readBar(b, TWO), 2);
            due("TIDE", b.count(6), 0);
            due("JOKES he REMEMBERS", b.count(9), 0);
            for (int joke = 0; joke < 3; joke++) {
                due("never heard", b.joke(joke, 5), 99);
            }
            due("SHIPS that WAIT", b.count(8), 3);
            due("ship(0, 3)", b.ship(0, 3), NONE);
            due("ship(1, 3)", b.ship(1, 3), NONE);
            due("EARNED", b.count(7), 0);
            due("KNOWN", b.ship(0, 2), 1);
        });
    }

    private static void faults() {
        test(4, "FAULTS, the first along the text, 1 + 8 * its place and:", () -> {
            dueBar("?", -2 - 1);
            dueBar(" ?", -2 - 9);
            dueBar("bar 0 0", -2 - (1 + 8 * 4 + 1));
            dueBar("bar 61 1;bar", fault(4, 1));
            dueBar("bar 1 1;ship 1 1;ship 100 61;ship 1 1;?", fault(22, 1));
            dueBar("bar 1 1;joke 1 ? 10", fault(15, 0));
            dueBar("joke 10 1 1", fault(0, 4));
        });
        test(4, "0 a byte or WORD that can't stand there, or the end (behind the last byte);", () -> {
            dueBar("", fault(0, 0));
            dueBar("   ", fault(3, 0));
            dueBar("bars 1 1", fault(0, 0));
            dueBar("ba 1 1", fault(0, 0));
            dueBar("barbarbar 1 1", fault(0, 0));
            dueBar("Bar 1 1", fault(0, 0));
            dueBar("tell 1", fault(0, 0));
            dueBar("1 1", fault(0, 0));
            dueBar("bar bar", fault(4, 0));
            dueBar("bar 1 joke", fault(6, 0));
            dueBar("bar 1  ", fault(7, 0));
            dueBar("bar 1 1joke", fault(7, 0));
            dueBar("bar 1 1;jokes 1 1 1", fault(8, 0));
            dueBar("bar 1 1; ", fault(9, 0));
            dueBar("bar 1 1\0", fault(7, 0));
            dueBar("bar 1 1" + (char) 255, fault(7, 0));
        });
        test(4, "1 a NUMBER of more digits, or not as told;", () -> {
            dueBar("bar 00060 00003", 0);
            dueBar("bar 000060 3", fault(4, 1));
            dueBar("bar 60 000003", fault(7, 1));
            dueBar("bar 1 1;joke 0 0 000000", fault(17, 1));
            dueBar("bar 1 1;joke 0 0 9999999999999", fault(17, 1));
            dueBar("bar 1 1;ship 0 4294967296", fault(15, 1));
            dueBar("bar 1 1;ship 0 0;joke 1 1 1;knows 0 00000000000", fault(36, 1));
        });
        test(4, "4 one CLAUSE too many, a second bar, another CLAUSE ahead of it, a ninth JOKE, a sixth SHIP (at "
                + "its first byte).",
                () -> {
            dueBar(FORTY + ";  ship 1 1", fault(FORTY.length() + 3, 4));
            dueBar("bar 1 1;  bar", fault(10, 4));
            dueBar("  knows", fault(2, 4));
            dueBar("bar 1 1" + times(";joke 1 1 1", 8) + "; joke", fault(7 + 88 + 2, 4));
            dueBar("bar 1 1" + times(";ship 1 1", 5) + "; ship", fault(7 + 45 + 2, 4));
            dueBar("bar 1 1" + times(";ship 1 1", 5) + times(";joke 1 1 1", 8) + ";knows 4 7", 5);
        });
        test(4, "Of one place the least.", () -> {
            dueBar(FORTY + ";nows 0 0", fault(FORTY.length() + 1, 0));
            dueBar(FORTY + ";", fault(FORTY.length() + 1, 0));
            dueBar(FORTY + ";1", fault(FORTY.length() + 1, 0));
            dueBar("jokes 1 1 1;bar 1 1", fault(0, 0));
            dueBar("bar 1 1;bard 1 1", fault(8, 0));
        });
        test(4, "Blanks (32) stand between as one likes.", () -> {
            dueBar("   bar   1   1   ;   ship   1   1   ", 1);
            dueBar("bar1 1;ship1 1;joke1 1 1;knows0 0", 1);
            dueBar("bar 1 1;ship\t1 1", fault(12, 0));
            dueBar("bar 1 1;ship\n1 1", fault(12, 0));
            dueBar("bar 1 1" + (char) 160 + ";ship 1 1", fault(7, 0));
            dueBar("b ar 1 1", fault(0, 0));
            due("6 0 is no 60", readBar(new BarPilot(), "bar 6 0 1"), fault(6, 1));
        });
    }

    private static void theCall() {
        test(4, "The TAPE, which is empty then, is the BAR in place of the one there was", () -> {
            BarPilot b = open(TWO);
            due("the TAPE", b.count(13), 0);
            due("bar() at once again", b.bar(), fault(0, 0));
            due("another", readBar(b, "bar 4 1;joke 1 1 1;ship 3 4"), 1);
            due("FADES", b.count(0), 4);
            due("LIKE", b.count(1), 1);
            due("JOKES", b.count(2), 1);
            due("SHIPS", b.count(3), 1);
            due("ship(0, 0)", b.ship(0, 0), 3);
            due("what it knew is gone", b.ship(0, 2), 0);
            due("alike(0, 0)", b.alike(0, 0), 3);
            due("joke(1, 0)", b.joke(1, 0), NONE);
            due("with JOKES that are not like now", readBar(b, "bar 3 2;joke 1 2 3;joke 4 5 9;ship 1 1;knows 0 0"), 1);
            b.tide();
            due("fresh()", b.fresh(), 2);
            put(b, "bar 1?");
            b.bar();
            due("the TAPE, behind a FAULT", b.count(13), 0);
        });
        test(4, "(no NOTES, nothing to be UNDONE; the RULE IN FORCE and x stay)", () -> {
            BarPilot b = open(TWO, "tell 1", "tell 2");
            b.force(1);
            b.seed(77);
            b.note(0, 0, 0);
            b.tide();
            b.image(2);
            readBar(b, "bar 9 1");
            due("NOTES", b.count(10), 0);
            due("ACTS", b.count(11), 0);
            due("undo()", b.undo(), -2);
            due("the RULE IN FORCE", b.count(5), 1);
            due("RULES", b.count(4), 2);
            due("x", b.count(12), 77);
            due("the IMAGE stays", b.back(2), 1);
            due("its FADES", b.count(0), 3);
        });
        test(4, "how many SHIPS;", () -> {
            for (int ships = 0; ships <= 5; ships++) {
                dueBar("bar 1 1" + times(";ship 1 1", ships), ships);
            }
        });
        test(4, "-2 - its FAULT, and all stays.", () -> {
            BarPilot b = open(TWO, "tell 1");
            b.seed(5);
            b.tide();
            b.note(0, 0, 0);
            nothingHappens(b, () -> {
                due("empty", b.bar(), -3);
                due("behind much that is right", readBar(b, "bar 9 1;joke 9 9 9;ship 9 9;knows 0 0;knows 0 1"),
                        fault(46, 1));
                due("at the very end", readBar(b, "bar 9 1;joke 9 9 9;ship 9 9;"), fault(28, 0));
            });
            due("joke(0, 2)", b.joke(0, 2), 3);
            due("alike(0, 1)", b.alike(0, 1), 2);
            due("ship(0, 0)", b.ship(0, 0), 50);
            due("undo()", b.undo(), 0);
            due("KNOWN", b.ship(1, 2), 6);
            due("the NOTE", b.ruled(0), 2);
            BarPilot none = new BarPilot();
            due("without one", readBar(none, "bar 1 4"), fault(6, 1));
            due("there is none yet", none.fresh(), NONE);
        });
    }
}
