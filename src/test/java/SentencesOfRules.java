import java.util.function.Supplier;

/** The text of a rule and what it means: promises 5 and 6, and the terms that they use. */
final class SentencesOfRules extends Sentences {
    private static final String TWELVE = "tell 1" + times(";tell 1", 11);
    private static final String SIXTY = "tell 1" + times("+1", 59);
    /** 58 values and a fact's sign, so that one value more may come behind it. */
    private static final String FACT_60TH = "tell 1" + times("+1", 56) + " if 1<";

    /** Ship 0 knows jokes 0 and 1, of which none is heard; joke 1 is the one that it tells if a test does not hold. */
    private static BarPilot plain() {
        return open("bar 9 3;joke 1 1 1;joke 9 9 9;ship 60 10;knows 0 0;knows 0 1");
    }

    /** Ship 0 keeps its cargo till tide 0, and it is tide many. */
    private static Supplier<BarPilot> late(int many) {
        return () -> tides(open("bar 9 3;joke 1 1 1;joke 9 9 9;ship 60 0;knows 0 0;knows 0 1", "tell 0"), many);
    }

    /** Joke 0 was heard from ship 1 so many tides ago. */
    private static Supplier<BarPilot> heard(int ago) {
        return () -> {
            BarPilot b = open("bar 60 3;joke 1 1 1;joke 9 9 9;ship 60 10;ship 1 1;knows 0 0;knows 0 1"
                    + ";knows 1 0", "tell 0");
            b.say(1, 0);
            return tides(b, ago);
        };
    }

    static void tests() {
        texts();
        testsOfJokes();
        sums();
        words();
        faults();
        theCalls();
    }

    private static void texts() {
        test(5, "RULES 0 to 5: texts likewise, 12 CLAUSES at most:", () -> {
            BarPilot b = new BarPilot();
            for (int rule = 0; rule <= 5; rule++) {
                due("rule()", readRule(b, "tell 1"), rule);
            }
            due("a seventh", readRule(b, "tell 1"), NONE);
            dueRule(TWELVE, 0);
            dueRule(TWELVE + ";tell 1", fault(TWELVE.length() + 1, 4));
            dueRule("tell 1" + times(" ", 394), 0);
            dueRule("tell 1" + times(" ", 393) + "?", fault(399, 0));
            dueRule("tell 1" + times(" ", 393) + ";", fault(400, 0));
            dueRule("tell 1;", fault(7, 0));
            dueRule(";tell 1", fault(0, 0));
            dueRule("tell 1;;tell 1", fault(7, 0));
            dueRule("tell 1 tell 1", fault(7, 0));
        });
        test(5, "tell SUM [ if TEST ].", () -> {
            dueRule("tell 1", 0);
            dueRule("tell 1 if 1<2", 0);
            dueRule("tell", fault(4, 0));
            dueRule("tell if 1<2", fault(5, 0));
            dueRule("tell 1 if", fault(9, 0));
            dueRule("tell 1 if ;", fault(10, 0));
            dueRule("tell 1 1<2", fault(7, 0));
            dueRule("tell 1 if 1<2 if 1<2", fault(14, 0));
            dueRule("tell [1]", fault(5, 0));
            dueRule("if 1<2 tell 1", fault(0, 0));
        });
        test(5, "VALUE: NUMBER (1 to 5 digits, as far as digits go on) | WORD.", () -> {
            dueRule("tell 0", 0);
            dueRule("tell 99999", 0);
            dueRule("tell 00000", 0);
            dueRule("tell 100000", fault(5, 1));
            dueRule("tell 000000", fault(5, 1));
            dueRule("tell 1+0123456", fault(7, 1));
            dueRule("tell 12 34", fault(8, 0));
            dueRule("tell 1:", fault(6, 0));
            dueRule("tell /", fault(5, 0));
            dueRule("tell 1ship", fault(6, 0));
            dueRule("tell 1if 1<2or 2<3", 0);
            dueTrue(SentencesOfRules::plain, "99999+1=50000*2", "00007=7", "0=00000");
        });
        test(5, "WORDS (small letters, as far as these go on)", () -> {
            dueRule("tell shipz", fault(5, 0));
            dueRule("tell aship", fault(5, 0));
            dueRule("tell shipjoke", fault(5, 0));
            dueRule("tell shi", fault(5, 0));
            dueRule("tell Ship", fault(5, 0));
            dueRule("tell shiP", fault(5, 0));
            dueRule("tell ship{", fault(9, 0));
            dueRule("tell ship`", fault(9, 0));
            dueRule("tell shipif 1<2", fault(5, 0));
            dueRule("tell waitings", fault(5, 0));
            dueRule("tell waitingwaiting", fault(5, 0));
            dueRule("tell 1 if 1<shipand 2<3", fault(12, 0));
            dueRule("tell ship1", fault(9, 0));
            dueRule("tellship", fault(0, 0));
            dueRule("tell 1 if not1<2", 0);
            dueRule("tell knows", fault(5, 0));
            dueRule("tell if", fault(5, 0));
            dueRule("tell tell", fault(5, 0));
        });
        test(5, "Blanks (32) stand between as one likes.", () -> {
            dueRule("   tell   1   +   2   if   not   [   1   <=   2   ]   ;   tell   1   ", 0);
            dueRule("tell1+2if not[1<=2];tell1", 0);
            dueRule("tell 1 if 1< =2", fault(13, 0));
            dueRule("tell 1 if 1> =2", fault(13, 0));
            dueRule("te ll 1", fault(0, 0));
            dueRule("tell\t1", fault(4, 0));
            dueRule("tell 1\n", fault(6, 0));
            dueRule("tell 1" + (char) 160, fault(6, 0));
            dueRule("tell 1\0", fault(6, 0));
            dueRule("tell 1" + (char) 31, fault(6, 0));
            dueRule("tell 1" + (char) 33, fault(6, 0));
        });
    }

    private static void testsOfJokes() {
        test(5, "TEST: PART { or PART }. PART: FACT { and FACT }.", () -> {
            dueTrue(SentencesOfRules::plain, "1<2 and 1<2", "2<1 or 1<2", "1<2 or 2<1", "2<1 and 2<1 or 1<2",
                    "1<2 or 2<1 and 2<1", "2<1 or 2<1 or 1<2", "1<2 and 1<2 and 1<2",
                    "2<1 or 1<2 and 1<2 or 2<1", "1<2 and 2<1 or 1<2 and "
                            + "1<2", "1<2 or not 1<2", "2<1 and not 2<1 or 1<2",
                    "1<2 and not 2<1 and not 2<1", "2<1 or not 2<1 or not 1<2", times("1<2 and ", 14) + "1<2",
                    times("2<1 or ", 14) + "1<2");
            dueFalse(SentencesOfRules::plain, "1<2 and 2<1", "2<1 and 1<2", "2<1 or 2<1", "2<1 and 1<2 or 2<1",
                    "2<1 or 1<2 and 2<1", "1<2 and 1<2 and 2<1", "2<1 or 2<1 or 2<1", "2<1 and 1<2 or 1<2 and 2<1",
                    "2<1 and not 2<1", "2<1 or not 1<2", "1<2 and not 1<2 or not 1<2", times("1<2 and ", 14) + "2<1",
                    times("2<1 or ", 14) + "2<1");
            dueRule("tell 1 if 1<2 or", fault(16, 0));
            dueRule("tell 1 if 1<2 and", fault(17, 0));
            dueRule("tell 1 if or 1<2", fault(10, 0));
            dueRule("tell 1 if 1<2 and or 1<2", fault(18, 0));
            dueRule("tell 1 if 1<2 1<2", fault(14, 0));
        });
        test(5, "FACT: not FACT | [ TEST ] (these brackets are signs) | SUM SIGN SUM,", () -> {
            dueTrue(SentencesOfRules::plain, "not 2<1", "not not 1<2", "[1<2]", "[2<1 or 1<2] and 1<2", "not [1<2 and 2<1]",
                    "not 2<1 and 1<2", "not 2<1 or 2<1", "[[1<2]]");
            dueFalse(SentencesOfRules::plain, "not 1<2", "not not 2<1", "[2<1]", "[1<2 or 1<2] and 2<1", "not [2<1 or 1<2]",
                    "not 1<2 or 2<1", "not 2<1 and 2<1", "not [1<2]", "not 1<=2", "not 2=2", "not 3>=2", "not 3>2");
            dueRule("tell 1 if []", fault(11, 0));
            dueRule("tell 1 if [1<2", fault(14, 0));
            dueRule("tell 1 if 1<2]", fault(13, 0));
            dueRule("tell 1 if [1]<2", fault(12, 0));
            dueRule("tell 1 if (1<2)", fault(10, 0));
            dueRule("tell 1 if not", fault(13, 0));
            dueRule("tell 1 if 1", fault(11, 0));
            dueRule("tell 1 if 1+<2", fault(12, 0));
            dueRule("tell 1 if 1<", fault(12, 0));
            dueRule("tell 1 if 1<2<3", fault(13, 0));
            dueRule("tell 1 if 1<not 2", fault(12, 0));
        });
        test(5, "SIGN one of < <= = >= >.", () -> {
            dueTrue(SentencesOfRules::plain, "1<2", "1<=2", "2<=2", "2=2", "2>=2", "3>=2", "3>2");
            dueFalse(SentencesOfRules::plain, "2<2", "3<2", "3<=2", "1=2", "3=2", "1>=2", "2>2", "1>2");
            dueRule("tell 1 if 1=<2", fault(12, 0));
            dueRule("tell 1 if 1=>2", fault(12, 0));
            dueRule("tell 1 if 1<>2", fault(12, 0));
            dueRule("tell 1 if 1==2", fault(12, 0));
            dueRule("tell 1 if 1!2", fault(11, 0));
            dueRule("tell 1 if 1<==2", fault(13, 0));
        });
        test(5, "[ and not lie within one another 10 deep at most;", () -> {
            String ten = times("[", 10) + "1<2" + times("]", 10);
            dueRule("tell 1 if " + ten, 0);
            dueRule("tell 1 if " + times("[", 11) + "1<2" + times("]", 11), fault(20, 2));
            dueRule("tell 1 if " + times("not ", 10) + "1<2", 0);
            dueRule("tell 1 if " + times("not ", 11) + "1<2", fault(50, 2));
            dueRule("tell 1 if " + times("not[", 5) + "1<2" + times("]", 5), 0);
            dueRule("tell 1 if " + times("not[", 5) + "not 1<2" + times("]", 5), fault(30, 2));
            dueRule("tell 1 if " + times("not[", 5) + "[1<2]" + times("]", 5), fault(30, 2));
            dueRule("tell 1 if " + ten + " and " + ten + " or " + ten + ";tell 1 if " + ten, 0);
            dueRule("tell 1 if not " + times("[", 9) + "1<2" + times("]", 9) + " and " + ten, 0);
            due("10 deep, not", holds(plain(), times("not ", 9) + "1<2") ? 1 : 0, 0);
            due("9 deep, not", holds(plain(), times("not ", 8) + "1<2") ? 1 : 0, 1);
        });
        test(5, "at most 60 VALUES (of SUMS) and FACTS made of a SIGN, together.", () -> {
            dueRule(SIXTY, 0);
            dueRule(SIXTY + "+1", fault(SIXTY.length() + 1, 3));
            dueRule("tell 1" + times("*1", 60), fault(125, 3));
            dueRule("tell ship" + times("-joke", 60), fault(5 + 5 * 60, 3));
            dueRule(FACT_60TH + "2", 0);
            dueRule(FACT_60TH + "2+3", fault(FACT_60TH.length() + 2, 3));
            dueRule("tell 1 if 1<2" + times(" or 1<2", 18), 0);
            dueRule("tell 1 if not [not 1<2" + times(" or [1<2]", 18) + "]", 0);
            dueRule("tell 1" + times("+1", 47) + times(";tell 1", 11) + "+1", 0);
            dueRule("tell 1" + times("+1", 48) + times(";tell 1", 11) + "+1", fault(6 + 96 + 77 + 1, 3));
            // 40 and 15 and 2 and 3; the first clause's test does not hold, as its last not is one of nine.
            String full = "tell 1" + times("+1", 39) + " if " + times(times("not ", 10) + "1<2 and ", 4) + times("not ", 9)
                    + "1<2;tell joke+1 if 1<2";
            String padded = full + times(" ", 400 - full.length());
            due("60 in 400 bytes, the last clause counts", open("bar 9 3;joke 1 1 1;joke 2 2 2;ship 1 1;knows 0 0"
                    + ";knows 0 1", padded)
                    .over(0, 1), 1);
            dueRule(full + "+1", fault(full.length() + 1, 3));
        });
    }

    private static void sums() {
        test(5, "SUM: TERM { (+ or -) TERM }.", () -> {
            dueTrue(SentencesOfRules::plain, "1+2=3", "5-3-1=1", "5-3+1=3", "1-2+3-4+5=3", "2+3*4=14", "2*3+4=10",
                    "9-2*3-1=2", "0-1<0", "1+2*3+4*5=27");
            dueRule("tell -1", fault(5, 0));
            dueRule("tell +1", fault(5, 0));
            dueRule("tell 1+", fault(7, 0));
            dueRule("tell 1--1", fault(7, 0));
            dueRule("tell 1+[2]", fault(7, 0));
        });
        test(5, "TERM: VALUE { (* or / or %) VALUE }.", () -> {
            dueTrue(SentencesOfRules::plain, "2*3*4=24", "7/2*2=6", "7*2/2=7", "17%10/2=3", "17/3%3=2", "100/10/5=2",
                    "17%10%4=3", "2*7%5=4");
            dueRule("tell *1", fault(5, 0));
            dueRule("tell 1*", fault(7, 0));
            dueRule("tell 2*-1", fault(7, 0));
            dueRule("tell 1^2", fault(6, 0));
        });
        test(5, "/ is towards 0, % its rest, both 0 by 0;", () -> {
            dueTrue(SentencesOfRules::plain, "7/2=3", "7%2=1", "6/7=0", "6%7=6", "7/0=0", "7%0=0", "0/0=0", "0%0=0", "5/0+5=5",
                    "7/0*9+1=1");
            dueTrue(late(7), "keeps=0-7", "keeps/2=0-3", "keeps%2=0-1", "keeps/8=0", "keeps%8=0-7", "keeps/0=0", "keeps%0=0",
                    "20/keeps=0-2", "20%keeps=6", "keeps/keeps=1");
        });
        test(5, "all goes round in 64 bits.", () -> {
            String least = "65536*65536*65536*32768";
            dueTrue(SentencesOfRules::plain, least + "<0", least + "-1>0", least + "+" + least + "=0",
                    "65536*65536*65536*65536=0", "65536*65536*65536*16384>0", "65536*32768>65535", "65536*65536>0",
                    least + "-1=32768*65536*65536*65535+32768*65536*65535+32768*65535+32767");
            dueTrue(late(1), "keeps=0-1", least + "/keeps=" + least, least + "%keeps=0");
            due("a sum below 0 tells none", open(TWO, "tell " + least).tide(), 0);
            due("and one above 0 does", open(TWO, "tell " + least + "-1-joke").tide(), 1);
        });
    }

    private static void words() {
        test(5, "of a SHIP that WAITS and of a JOKE it KNOWS: ship, joke, cargo,", () -> {
            dueTrue(SentencesOfRules::plain, "ship=0", "joke=0", "cargo=60");
            BarPilot b = open("bar 9 3;joke 1 1 1;joke 2 2 2;joke 3 3 3;ship 7 9;ship 8 9;knows 0 0;knows 0 2"
                    + ";knows 1 0;knows 1 1",
                    "tell 1+joke if joke=2-ship and cargo=7+ship");
            due("both", b.tide(), 3);
            due("ship 0 told 2, ship 1 told 1", b.count(9), 6);
            b = open("bar 9 3;joke 1 1 1;joke 2 2 2;ship 7 9;knows 0 0", "tell 1 if joke=1");
            due("one it does not know", b.tide(), 0);
            due("heard", b.count(9), 0);
        });
        test(5, "keeps (KEEPS less TIDE),", () -> {
            dueTrue(SentencesOfRules::plain, "keeps=10");
            dueTrue(() -> tides(open("bar 9 3;joke 1 1 1;joke 9 9 9;ship 6 3;knows 0 0"
                    + ";knows 0 1", "tell 0"), 3), "keeps=0");
            dueTrue(late(0), "keeps=0");
            dueTrue(late(1), "keeps=0-1");
        });
        test(5, "like (of those he REMEMBERS the most parts alike to one; 0),", () -> {
            String known = "bar 2 3;joke 1 1 1;joke 2 1 2;joke 2 1 1;joke 3 3 1;joke 1 1 1;joke 9 9 9;ship 5 5;ship 6 6"
                    + ";knows 0 0;knows 0 5;knows 1 0;knows 1 1;knows 1 2;knows 1 3;knows 1 4";
            dueTrue(() -> open(known), "like=0");
            int[] alike = {3, 1, 2, 1, 3};
            for (int joke = 0; joke < 5; joke++) {
                int told = joke;
                Supplier<BarPilot> state = () -> {
                    BarPilot b = open(known, "tell 0");
                    b.say(1, told);
                    return b;
                };
                dueTrue(state, "like=" + alike[joke]);
                dueTrue(() -> tides(state.get(), 1), "like=" + alike[joke]);
                dueTrue(() -> tides(state.get(), 2), "like=0");
            }
            Supplier<BarPilot> two = () -> {
                BarPilot b = open(known + ";ship 7 7;knows 2 3", "tell 0");
                b.say(1, 1);
                b.say(2, 3);
                return b;
            };
            dueTrue(two, "like=1");
            for (int like = 0; like <= 3; like++) {
                BarPilot b = open("bar 9 3;joke 1 1 1;joke 3 2 1;joke 4 1 1;joke 1 1 1;joke 9 9 9;ship 5 5"
                        + ";ship 6 6;knows 1 0"
                        + ";knows 0 1;knows 0 2;knows 0 3;knows 0 4", "tell 1 if like=" + like);
                b.say(1, 0);
                b.tide();
                int told = new int[] {4, 1, 2, 3}[like];
                due("of others, too: like " + like, b.joke(told, 5), 1);
            }
        });
        test(5, "fresh (1 if it is NEW, else 0),", () -> {
            dueTrue(SentencesOfRules::plain, "fresh=1");
            dueTrue(heard(0), "fresh=0");
            dueTrue(heard(59), "fresh=0");
            dueTrue(heard(60), "fresh=1");
        });
        test(5, "known (how many SHIPS that WAIT KNOW it),", () -> {
            dueTrue(SentencesOfRules::plain, "known=1");
            dueTrue(heard(0), "known=1");
            String bar = "bar 9 3;joke 1 1 1;joke 2 2 2;joke 9 9 9;ship 1 1;ship 2 2;ship 3 3;ship 4 4;ship 5 5"
                    + ";knows 0 0"
                    + ";knows 0 2;knows 1 0;knows 1 1;knows 2 0;knows 3 0;knows 4 0";
            dueTrue(() -> open(bar), "known=5");
            dueTrue(() -> {
                BarPilot b = open(bar);
                b.say(1, 1);
                return b;
            }, "known=4");
        });
        test(5, "waiting (how many do),", () -> {
            dueTrue(SentencesOfRules::plain, "waiting=1");
            dueTrue(heard(0), "waiting=1");
            BarPilot b = open("bar 9 3;joke 0 0 0;joke 1 1 1;joke 2 2 2;joke 3 3 3;joke 4 4 4;joke 5 5 5;ship 1 1"
                    + ";ship 1 1"
                    + ";ship 1 1;ship 1 1;ship 1 1;knows 0 5;knows 1 4;knows 2 3;knows 3 2"
                    + ";knows 4 1", "tell 1 if waiting=joke");
            due("from 5 on down to 1", b.tide(), 31);
        });
        test(5, "since (TIDES since he heard it, 99 at most; 99 if never),", () -> {
            dueTrue(SentencesOfRules::plain, "since=99");
            dueTrue(heard(0), "since=0");
            dueTrue(heard(1), "since=1");
            dueTrue(heard(98), "since=98");
            dueTrue(heard(99), "since=99");
            dueTrue(heard(100), "since=99");
            dueTrue(() -> {
                BarPilot b = heard(5).get();
                b.dull(0);
                return b;
            }, "since=99");
        });
        test(5, "passed (how many have), tide.", () -> {
            dueTrue(SentencesOfRules::plain, "passed=0", "tide=0");
            dueTrue(heard(0), "passed=1", "tide=0");
            dueTrue(heard(3), "passed=1", "tide=3");
            BarPilot b = open("bar 9 3;joke 0 0 0;joke 1 1 1;joke 2 2 2;joke 3 3 3;joke 4 4 4;ship 1 1;ship 1 1"
                    + ";ship 1 1;ship 1 1;ship 1 1;knows 0 0;knows 1 1;knows 2 2;knows 3 3"
                    + ";knows 4 4", "tell 1 if passed=joke");
            due("from 0 on up to 4", b.tide(), 31);
        });
    }

    private static void faults() {
        test(5, "FAULTS, the first along the text, 1 + 8 * its place and:", () -> {
            dueRule("?", -2 - 1);
            dueRule("tell ?;tell 123456", fault(5, 0));
            dueRule("tell 123456;tell ?", fault(5, 1));
            dueRule("tell 1 if 1<2] or ?", fault(13, 0));
            dueRule(times("tell 1;", 12) + "tell ?", fault(84, 4));
        });
        test(5, "0 a byte or WORD that can't stand there, or the end (behind the last byte);", () -> {
            dueRule("", fault(0, 0));
            dueRule("  ", fault(2, 0));
            dueRule("tells 1", fault(0, 0));
            dueRule("tel 1", fault(0, 0));
            dueRule("bar 1 1", fault(0, 0));
            dueRule("1", fault(0, 0));
            dueRule("tell  ", fault(6, 0));
            dueRule("tell 1 and 1<2", fault(7, 0));
            dueRule("tell 1 ship", fault(7, 0));
            dueRule("tell 1<2", fault(6, 0));
            dueRule("tell 1 if 1<2 ship", fault(14, 0));
            dueRule("tell 1 if [1<2;tell 1]", fault(14, 0));
        });
        test(5, "1 a NUMBER of more digits, or not as told;", () -> {
            dueRule("tell 1 if 123456<1", fault(10, 1));
            dueRule("tell 1 if 1<123456", fault(12, 1));
            dueRule("tell 99999999999999999999", fault(5, 1));
        });
        test(5, "2 too deep (at the sign that opens, or the word not);", () -> {
            dueRule("tell 1 if " + times("[", 10) + "  [", fault(22, 2));
            dueRule("tell 1 if " + times("[", 10) + "  not", fault(22, 2));
            dueRule("tell 1 if " + times("[", 10) + "nott 1<2", fault(20, 0));
            dueRule("tell 1 if 1<2 and " + times("[", 9) + "1<2 or not [1<2]", fault(34 + 4, 2));
        });
        test(5, "3 one VALUE or FACT too many (at its first byte; of a FACT at its SIGN);", () -> {
            dueRule(SIXTY + "+  99999", fault(SIXTY.length() + 3, 3));
            dueRule(SIXTY + "+  since", fault(SIXTY.length() + 3, 3));
            dueRule(SIXTY + ";tell 1", fault(SIXTY.length() + 6, 3));
            String sign = "tell 1" + times("+1", 57) + " if 1+1";
            dueRule(sign + "  <=1", fault(sign.length() + 2, 3));
            dueRule(sign + "=1", fault(sign.length(), 3));
            String right = "tell 1" + times("+1", 57) + " if 1<";
            dueRule(right + " 1", fault(right.length() + 1, 3));
        });
        test(5, "4 one CLAUSE too many, a second bar, another CLAUSE ahead of it, a ninth JOKE, a sixth SHIP (at "
                + "its first byte).",
                () -> {
            dueRule(TWELVE + ";  tell", fault(TWELVE.length() + 3, 4));
            dueRule(TWELVE + "  ", 0);
        });
        test(5, "Of one place the least.", () -> {
            dueRule(TWELVE + ";sell 1", fault(TWELVE.length() + 1, 0));
            dueRule(TWELVE + ";", fault(TWELVE.length() + 1, 0));
            dueRule(SIXTY + "+123456", fault(SIXTY.length() + 1, 1));
            dueRule(SIXTY + "+tell", fault(SIXTY.length() + 1, 0));
            dueRule(SIXTY + "+", fault(SIXTY.length() + 1, 0));
            String sign = "tell 1" + times("+1", 57) + " if 1+1";
            dueRule(sign + ";", fault(sign.length(), 0));
        });
    }

    private static void theCalls() {
        test(5, "The TAPE, which is empty then, is a RULE: its number;", () -> {
            BarPilot b = open(TWO);
            due("first", readRule(b, "tell joke"), 0);
            due("the TAPE", b.count(13), 0);
            due("rule() at once again", b.rule(), fault(0, 0));
            due("second", readRule(b, "tell 3-joke"), 1);
            due("RULES", b.count(4), 2);
            due("none is IN FORCE by that", b.count(5), NONE);
            due("by none ship 1 passes with 2", b.over(1, 1), 2);
            b.force(1);
            due("by rule 1 it tells 1 over and over, which is like 0, then like itself", b.over(1, 0), -2);
            b.force(0);
            due("by rule 0 it tells 2", b.over(1, 1), 2);
            due("and ship 0 never tells 0", b.over(0, 0), -2);
        });
        test(5, "-2 - its FAULT;", () -> {
            BarPilot b = open(TWO, "tell 1");
            nothingHappens(b, () -> {
                due("empty", b.rule(), -3);
                due("behind much that is right", readRule(b, "tell 1 if 1<2;tell ?"), fault(19, 0));
                due("the TAPE is empty", b.count(13), 0);
            });
            due("the next one has the next number", readRule(b, "tell 2"), 1);
        });
        test(5, "NONE, and nothing happens: there are 6.", () -> {
            BarPilot b = open(TWO, "tell 1", "tell 2", "tell 3", "tell 4", "tell 5", "tell 6");
            put(b, "tell 7");
            nothingHappens(b, () -> due("a seventh", b.rule(), NONE));
            due("the TAPE", b.count(13), 6);
            due("end(1)", b.end(1), 1);
            nothingHappens(b, () -> due("a seventh with a FAULT", b.rule(), NONE));
            b.end(0);
            nothingHappens(b, () -> due("a seventh of nothing", b.rule(), NONE));
        });
        test(6, "A RULE is IN FORCE (NONE: none): which was;", () -> {
            BarPilot b = open(TWO);
            for (int rule = 0; rule < 6; rule++) {
                readRule(b, "tell " + rule);
            }
            due("force(0)", b.force(0), NONE);
            due("nobody tells by rule 0", b.tide(), 0);
            due("force(5)", b.force(5), 0);
            due("ship 0 tells by rule 5", b.tide(), 1);
            due("force(5) again", b.force(5), 5);
            due("count(5)", b.count(5), 5);
            due("force(NONE)", b.force(NONE), 5);
            due("ship 1 tells without one", b.tide(), 2);
            due("force(NONE) again", b.force(NONE), NONE);
            due("count(5)", b.count(5), NONE);
            due("it is no ACT", b.count(11), 3);
        });
        test(6, "-2, and nothing happens, if there is none such.", () -> {
            BarPilot b = open(TWO, "tell 1", "tell 2");
            nothingHappens(b, () -> {
                due("force(2)", b.force(2), -2);
                due("force(-2)", b.force(-2), -2);
                due("force(6)", b.force(6), -2);
                due("force(most)", b.force(Integer.MAX_VALUE), -2);
                due("force(least)", b.force(Integer.MIN_VALUE), -2);
            });
            BarPilot full = open(TWO, "tell 1", "tell 2", "tell 3", "tell 4", "tell 5", "tell 6");
            due("force(6) of six", full.force(6), -2);
            due("force(5) of six", full.force(5), 0);
        });
    }
}
