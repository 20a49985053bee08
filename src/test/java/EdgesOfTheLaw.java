/** Boundary sentences of promise 6: the law, its faults, and what it says in an hour. */
final class EdgesOfTheLaw {
    private static final String DIGITS = "0123456789";
    private static final String FACTOR = DIGITS + "[msalickghn";
    private static final String TEST = FACTOR + "!(";
    private static final String SIGNS = "+-*/%";

    private EdgesOfTheLaw() { }

    private static void is(String call, long got, long want) {
        Edges.is(call, got, want);
    }

    private static void law(String text, int want) {
        is("law " + text, Due.law(new StrongMen(), text), want);
    }

    /** How tired a (of strength 50, in corner 0 of house 0 of one storey) is behind the first hour by a law. */
    private static void tires(String text, int want) {
        StrongMen x = Edges.heldHouse();
        is("law " + text + " can be read", Due.law(x, text) > 0 ? 1 : 0, 1);
        is("a tires by " + text, x.tried(1, 10), want);
    }

    private static void holds(String test) {
        tires("t5(" + test + ")", 5);
    }

    private static void holdsNot(String test) {
        tires("t5(" + test + ")", 0);
    }

    // ---- the call ----

    static void promise06_nIs1To240() {
        for (int n : new int[] {0, -1, 241, Edges.LOW, Edges.HIGH}) {
            Edges.refused("law(" + n + ")", x -> x.law(n), -1);
        }
        StrongMen x = new StrongMen();
        Due.feed(x, "t");
        is("law(1) of t: the end can't stand there", x.law(1), -1001);
        String text = "x(" + Edges.times(118, "1", "+") + "=1)";
        is("240 bytes", text.length(), 240);
        Due.feed(x, text);
        is("law(240)", x.law(240), 1);
        Due.feed(x, text + ";");
        is("law(241)", x.law(241), -1);
        is("the tape stays", x.count(7), 260);
        is("law(240) of it", x.law(240), 1);
    }

    static void promise06_theTapeHasNotSoMany() {
        Edges.refused("law(21) of 20", x -> x.law(Edges.ON_TAPE + 1), -1);
        Edges.refused("law(240) of 20", x -> x.law(240), -1);
        Edges.refusedWithoutTape("law(1) of none", x -> x.law(1), -1);
        StrongMen x = new StrongMen();
        Due.feed(x, "t10+10+10+10+1(1=11)");
        is("law(20) of 20", x.law(20), 1);
    }

    static void promise06_theTapeIsEmptyThen() {
        StrongMen x = new StrongMen();
        Due.feed(x, "x(m=0)" + "x(m=0)".repeat(10));
        is("law(6) of 80", x.law(6), 1);
        is("bytes", x.count(7), 0);
        Due.feed(x, "x(m=0" + "x(m=0)".repeat(10));
        is("a fault", x.law(5), -1005);
        is("bytes", x.count(7), 0);
    }

    static void promise06_whatIsBehindNIsNotRead() {
        StrongMen x = new StrongMen();
        Due.feed(x, "t12345(1=1)");
        is("behind n is )", x.law(10), -1010);
        Due.feed(x, "t1(1=1);t2(1=1)");
        is("behind n is ;", x.law(7), 1);
        Due.feed(x, "t1(1=1)z");
        is("behind n is z", x.law(7), 1);
        Due.feed(x, "t1(1=123456)");
        is("behind n is a sixth digit", x.law(10), -1010);
    }

    static void promise06_inPlaceOfTheOneBefore() {
        StrongMen x = Edges.heldHouse();
        Due.law(x, "t9(1=1);x(m=1);d10(m=2)");
        is("by the first", x.tried(1, 10) * 100 + x.tried(1, 0), 902);
        is("the second", Due.law(x, "t8(m=0)"), 1);
        is("rules", x.count(6), 1);
        is("by the second", x.tried(1, 10) * 100 + x.tried(1, 0), 800);
        is("b does not tire by it", x.tried(1, 11), 0);
    }

    static void promise06_aFaultLeavesTheOneBefore() {
        Edges.faulty("t5(1=1);", x -> Due.law(x, "t5(1=1);"), -1008);
        Edges.faulty("x(1=1);x(1=123456)", x -> Due.law(x, "x(1=1);x(1=123456)"), -2016);
        Edges.faulty("17 rules", x -> Due.law(x, Edges.times(17, "d9(1=1)", ";")), -4128);
        Edges.faulty("x(1=1);x(((((((1=1)))))))", x -> Due.law(x, "x(1=1);x(((((((1=1)))))))"), -5014);
    }

    static void promise06_lawAfterLaw() {
        StrongMen x = Edges.heldHouse();
        for (int k = 0; k < 20; k++) {
            String text = "t" + k + "+" + Edges.times(100, "0", "+") + "(1=1)";
            is("law " + k, Due.law(x, text), 1);
            is("a tires by law " + k, x.tried(1, 10), k);
            is("a fault at its end", Due.law(x, text + ";"), -1001 - text.length());
            is("a tires by law " + k + " still", x.tried(1, 10), k);
        }
    }

    static void promise06_nothingIsLeftOfALawThatHadMoreRules() {
        StrongMen x = Edges.heldHouse();
        Due.law(x, Edges.times(16, "x(1=1)", ";"));
        is("all let go", x.tried(1, 0), 4);
        Due.law(x, "t" + Edges.times(59, "1", "+") + "(" + Edges.times(25, "1=1", "&") + ")");
        is("nobody lets go", x.tried(1, 0), 0);
        is("a tires", x.tried(1, 10), 59);
        is("rules", x.count(6), 1);
        Due.law(x, Edges.times(16, "x(1=1)", ";"));
        Due.law(x, "x(1=2&" + Edges.times(20, "1=1", "&") + ")");
        is("nobody lets go by a part of it", x.tried(1, 0), 0);
    }

    static void promise06_howManyRules() {
        for (int rules = 1; rules <= 16; rules++) {
            StrongMen x = new StrongMen();
            is(rules + " rules", Due.law(x, Edges.times(rules, "y1(1=1)", ";")), rules);
            is("count(6)", x.count(6), rules);
        }
    }

    static void promise06_theLastOfSixteenRulesCounts() {
        tires(Edges.times(15, "t5(1=2)", ";") + ";t6(1=1)", 6);
        tires(Edges.times(15, "t5(1=2)", ";") + ";t6(1=2)", 0);
    }

    // ---- faults ----

    /** Every byte behind the beginning of a law: those that can stand there go on, the others are fault 1. */
    private static void next(String begun, String can) {
        law(begun, -1000 - begun.length());
        behind(begun, can);
    }

    private static void behind(String begun, String can) {
        for (int sign = 0; sign < 256; sign++) {
            boolean stands = can.indexOf(sign) >= 0;
            boolean ends = stands && sign == ')' && open(begun) == 1;
            int place = begun.length() + (stands ? 1 : 0);
            law(begun + (char) sign, ends ? 1 : -1000 - place);
        }
    }

    private static long open(String begun) {
        return begun.chars().filter(sign -> sign == '(').count() - begun.chars().filter(sign -> sign == ')').count();
    }

    static void promise06_fault1WhatCantStandThere() {
        behind("", "tydx");
        next("t", FACTOR);
        next("y", FACTOR);
        next("d", FACTOR);
        next("x", "(");
        next("t5", DIGITS + SIGNS + "(");
        next("y1234", DIGITS + SIGNS + "(");
        next("dm", SIGNS + "(");
        for (char sign : SIGNS.toCharArray()) {
            next("t5" + sign, FACTOR);
            next("x(m=g" + sign, FACTOR);
        }
        next("t[", FACTOR);
        next("t[5", DIGITS + SIGNS + "]");
        next("t[n", SIGNS + "]");
        next("t[5]", SIGNS + "(");
        next("t5(", TEST);
    }

    static void promise06_fault1InATest() {
        next("x(", TEST);
        next("x(!", TEST);
        next("x((", TEST);
        next("x(k", SIGNS + "<>=");
        next("x(7", DIGITS + SIGNS + "<>=");
        next("x([k]", SIGNS + "<>=");
        for (char sign : "<>=".toCharArray()) {
            next("x(m" + sign, FACTOR);
        }
        next("x(m=h", SIGNS + "&|)");
        next("x(m=0", DIGITS + SIGNS + "&|)");
        next("x(m=[h]", SIGNS + "&|)");
        next("x(m=0&", TEST);
        next("x(m=0|", TEST);
        next("x(!m=i", SIGNS + "&|)");
        next("x((m=i", SIGNS + "&|)");
        next("x((m=i)", "&|)");
        behind("x(m=0)", ";");
        next("x(m=0);", "tydx");
    }

    static void promise06_fault1TheEndToo() {
        String text = "t[m+12]*5(!(m=0|a>1)&s<[2])";
        for (int n = 1; n < text.length(); n++) {
            law(text.substring(0, n), -1000 - n);
        }
        law(text, 1);
    }

    static void promise06_fault2ASixthDigit() {
        law("t12345(1=1)", 1);
        law("t99999(1=1)", 1);
        law("t00000(1=1)", 1);
        law("t000000(1=1)", -2006);
        law("t1234567(1=1)", -2006);
        law("t1+123456(1=1)", -2008);
        law("t[123456](1=1)", -2007);
        law("x(99999=99999)", 1);
        law("x(999999=9)", -2007);
        law("x(9=999999)", -2009);
        law("x(1=12345);y123456", -2017);
        law("t123456", -2006);
        law("t12345", -1006);
    }

    static void promise06_fault4A17thRule() {
        String sixteen = Edges.times(16, "x(1=1)", ";");
        law(sixteen, 16);
        for (char letter : "tydx".toCharArray()) {
            law(sixteen + ";" + letter, -4112);
            law(sixteen + ";" + letter + "*", -4112);
        }
        law(sixteen + ";", -1112);
        law(sixteen + ";z", -1112);
        law(sixteen + ";;", -1112);
        law(sixteen + ";(", -1112);
        law(Edges.times(15, "x(1=1)", ";") + ";z", -1105);
    }

    static void promise06_fault5ASeventhOpen() {
        law("x((((((1=1))))))", 1);
        law("x(((((((1=1)))))))", -5007);
        law("x(([[[[1]]]]=1))", 1);
        law("x(([[[[[1]]]]]=1))", -5007);
        law("x((1=[[[[1]]]]))", 1);
        law("x((1=[[[[[1]]]]]))", -5009);
        law("x(!!!!!1=1)", 1);
        law("x(!!!!!!1=1)", -5007);
        law("x(!(!(![1]=1)))", -5007);
        law("x(!(!(!1=1)))", 1);
        law("x(!(!(!(1=1))))", -5007);
        law("x((((((!", -5007);
        law("x(((((([", -5007);
        law("x(((((((", -5007);
    }

    static void promise06_theEOfARuleStandsAheadOfItsBracket() {
        law("t[[[[[[1]]]]]]((((((1=1))))))", 1);
        law("t[[[[[[[1]]]]]]](1=1)", -5007);
        law("y1+[[[[[[1]]]]]](1=1)", 1);
        law("d1*[[[[[[[1", -5009);
        law("t[[[[[[1]]]]]](((((((1=1)))))))", -5020);
    }

    static void promise06_aNotIsOpenTillItsTestEnds() {
        law("x(!!!!!1=1&!!!!!1=1|!!!!!1=1)", 1);
        law("x(!!!!!1=1&!!!!!!1=1)", -5016);
        law("x(!!!!1=[1])", 1);
        law("x(!!!!!1=[1])", -5009);
        law("x(!!!!!1=1&[[[[[1]]]]]=1)", 1);
        law("x(!!!!!1=1&[[[[[[1]]]]]]=1)", -5016);
        law("x(!(1=1)&(((((1=1))))))", 1);
        law("x(!(1=1)&((((((1=1)))))))", -5014);
    }

    static void promise06_whatIsShutIsNotOpen() {
        law("x(" + Edges.times(40, "[1]", "+") + "=1)", 1);
        law("x(" + Edges.times(20, "(1=1)", "&") + ")", 1);
        law("x(" + Edges.times(30, "!1=1", "|") + ")", 1);
        law("x((((((1=1)))))&(((((1=1))))))", 1);
    }

    static void promise06_theFirstFaultFromTheLeft() {
        law("t123456((((((((", -2006);
        law("t1(1=1", -1006);
        law("x(((((((1=123456", -5007);
        law("x(1=123456)z", -2009);
        law("z(((((((", -1000);
        law("x((((((1=1&(", -5011);
        law("x((((((1(", -1008);
        law("x((((((1=(", -1009);
        law("t1 (1=1)", -1002);
        law(" t1(1=1)", -1000);
    }

    // ---- what the law says ----

    static void promise06_tIs0To99() {
        tires("t0(1=1)", 0);
        tires("t1(1=1)", 1);
        tires("t98(1=1)", 98);
        tires("t99(1=1)", 99);
        tires("t100(1=1)", 99);
        tires("t99999*20000(1=1)", 99);
        tires("t0-1(1=1)", 0);
        tires("t0-99999*20000(1=1)", 0);
    }

    /** How tired e is behind an hour off duty by a law of y, if he was tired 50 ahead of it. */
    private static void rests(String text, int want) {
        StrongMen x = Edges.heldHouse();
        x.man(4, 60);
        Due.roster(x, 0, 0, "ea");
        Due.law(x, "t50(m=4)");
        x.hours(1);
        is("tired ahead of it", x.manIs(4, 1), 50);
        is("law " + text + " can be read", Due.law(x, text) > 0 ? 1 : 0, 1);
        is("e rests by " + text, x.tried(1, 14), want);
    }

    static void promise06_yIs0To99() {
        rests("y0(1=1)", 50);
        rests("y1(1=1)", 49);
        rests("y49(1=1)", 1);
        rests("y50(1=1)", 0);
        rests("y51(1=1)", 0);
        rests("y100(1=1)", 0);
        rests("y0-1(1=1)", 50);
        rests("y0-50(1=1)", 50);
    }

    static void promise06_yBeyond99Is99() {
        StrongMen x = Edges.heldHouse();
        x.man(4, 60);
        Due.roster(x, 0, 0, "e9a");
        Due.law(x, "t99(m=4)");
        x.hours(1);
        is("tired 99", x.manIs(4, 1), 99);
        Due.law(x, "y98(m=4)");
        is("98 less", x.tried(1, 14), 1);
        Due.law(x, "y99(m=4)");
        is("99 less", x.tried(1, 14), 0);
        Due.law(x, "y99999(m=4)");
        is("0 at least", x.tried(1, 14), 0);
    }

    static void promise06_dIs0To10Tenths() {
        for (int d = -1; d <= 11; d++) {
            for (int seed = 0; seed < 40; seed++) {
                StrongMen x = Edges.heldHouse();
                x.seed(seed);
                Due.law(x, "d" + (d < 0 ? "0-1" : d) + "(1=1)");
                int sneeze = 0;
                int now = seed;
                for (int c = 0; c < 4; c++) {
                    now = Edges.drawn(now);
                    sneeze += now % 10 < d ? 1 : 0;
                }
                is("sneezes of d " + d + ", seed " + seed, x.tried(1, 1), sneeze);
                is("they sag", x.tried(1, 0), sneeze);
            }
        }
    }

    static void promise06_withoutARuleItIs0() {
        tires("y5(1=1)", 0);
        tires("d1(1=2)", 0);
        rests("t5(m<4)", 50);
        StrongMen x = Edges.heldHouse();
        Due.law(x, "t1(1=1);y1(1=1)");
        is("nobody sneezes", x.tried(20, 1), 0);
        is("nobody lets go", x.tried(20, 0), 0);
    }

    static void promise06_theFirstRuleThatHolds() {
        tires("t5(1=1);t6(1=1)", 5);
        tires("t5(1=2);t6(1=1);t7(1=1)", 6);
        tires("t5(1=2);t6(1=2)", 0);
        tires("y5(1=1);d0(1=1);t6(1=1)", 6);
        rests("y5(1=2);t9(1=1);y6(1=1);y7(1=1)", 44);
        tires("t0(1=1);t9(1=1)", 0);
    }

    private static void letGo(String text, int want) {
        StrongMen x = Edges.heldHouse();
        Due.law(x, text);
        is("let go by " + text, x.tried(1, 0), want);
        is("none of them sneezes by " + text, x.tried(1, 1), 0);
    }

    static void promise06_anyXWillDo() {
        letGo("x(m=0)", 1);
        letGo("x(m=0);x(m=1)", 2);
        letGo("x(1=2);x(1=2);x(m>0)", 3);
        letGo("x(1=1);x(1=2)", 4);
        letGo("x(1/0=1);x(1=1)", 4);
        letGo("x(1=2)", 0);
        letGo("t5(1=1);y5(1=1)", 0);
    }

    static void promise06_onceForHim() {
        letGo("x(1=1);x(1=1);x(1=1)", 4);
        letGo("t99(1=1);x(1=1);d10(1=1)", 4);
        letGo("x(1=1);d10(1=1)", 4);
    }

    static void promise06_allIsReckonedWith32Bits() {
        holds("65536*32768<0");
        holds("65536*65536=0");
        holds("65536*32767+65535>0");
        holds("65536*32767+65536<0");
        holds("0-65536*32768-1>0");
        holds("99999*99999%99999=99999*99999-99999*[99999*99999/99999]");
        holds("[0-65536*32768]/[0-1]<0");
        holds("[0-65536*32768]/[0-1]=65536*32768");
        holds("[0-65536*32768]%[0-1]=0");
        tires("t65536*65536+7(1=1)", 7);
    }

    static void promise06_divisionGoesTowards0() {
        holds("[0-7]/2=0-3");
        holds("7/[0-2]=0-3");
        holds("[0-7]%2=0-1");
        holds("7%[0-2]=1");
        holds("6/7=0");
        holds("6%7=6");
        holds("0/5=0");
    }

    static void promise06_whatIsDividedBy0IsRefused() {
        for (String sign : new String[] {"/", "%"}) {
            tires("t9" + sign + "0(1=1)", 0);
            tires("t50+9" + sign + "0(1=1)", 0);
            tires("t50+0" + sign + "0(1=1);t8(1=1)", 0);
            tires("t50+[9" + sign + "[5-5]](1=1)", 0);
            tires("t9(1" + sign + "0=0);t8(1=1)", 8);
            tires("t9(0=1" + sign + "m);t8(1=1)", 8);
            tires("t9(!1" + sign + "0=0);t8(1=1)", 8);
            tires("t9(!!1" + sign + "0=0);t8(1=1)", 8);
            tires("t9(!(1" + sign + "0=0));t8(1=1)", 8);
            tires("t9(1" + sign + "0=0|1=1);t8(1=1)", 8);
            tires("t9((1" + sign + "0=0)|1=1);t8(1=1)", 8);
            tires("t9(1=2|!(1=1&1" + sign + "0=1));t8(1=1)", 8);
        }
        tires("t9/1(1/1=1)", 9);
    }

    static void promise06_asMuchIsAskedFromTheLeftAsMatters() {
        holds("1=1|1/0=0");
        holds("1=1|1=2|1/0=0");
        holds("1=2|1=1|1/0=0");
        holds("1=1|1=1&1/0=0");
        holds("1=2&1/0=0|1=1");
        holds("1=2&1=1&1/0=0|1=1");
        holds("1=1&1=2&1/0=0|1=1");
        holds("(1=1|1/0=0)&1=1");
        holds("!(1=2&1/0=0)");
        holds("(1=2&(1/0=0|1/0=1))|1=1");
        holds("!(1=2&!1/0=0)&1=1");
        holdsNot("1=2&1/0=0");
        holdsNot("1/0=0|1=1");
        holdsNot("1=1&1/0=0|1=1");
        holdsNot("1=2|1/0=0|1=1");
        holdsNot("1/0=0&1=2|1=1");
    }

    static void promise06_andBindsBeforeOr() {
        holds("1=1|1=1&1=2");
        holds("1=2&1=2|1=1");
        holdsNot("(1=1|1=1)&1=2");
        holdsNot("1=2&(1=2|1=1)");
        holdsNot("1=2|1=2|1=2");
        holds("1=2|1=2|1=1");
        holds("1=1&1=1&1=1");
        holdsNot("1=1&1=1&1=2");
        holdsNot("!1=1|1=2");
        holds("!1=2&1=1");
        holdsNot("!(1=2|1=1)");
        holds("!1=1|1=1");
    }

    static void promise06_manyTestsInARow() {
        holds(Edges.times(58, "1=1", "&"));
        holdsNot(Edges.times(57, "1=1", "&") + "&1=2");
        holds(Edges.times(57, "1=2", "|") + "|1=1");
        holdsNot(Edges.times(58, "1=2", "|"));
        holds(Edges.times(18, "1=1&1=2", "|") + "|" + Edges.times(20, "1=1", "&"));
        holdsNot(Edges.times(29, "1=1&1=2", "|"));
        holds("1<1+1*[1+1*[1+1*[1+1*[1+1]]]]");
        holds("1<1+1*[1+1*[1+1*[1+1*[1+1*1]]]]&!!!!1=1");
    }

    static void promise06_comparing() {
        holds("1<2");
        holdsNot("2<2");
        holdsNot("3<2");
        holds("3>2");
        holdsNot("2>2");
        holdsNot("1>2");
        holds("2=2");
        holdsNot("2=1");
        holdsNot("1=2");
        holds("0-1<0");
        holds("0-1<1");
    }

    static void promise06_fromTheLeftOn() {
        tires("t20-5-4(1=1)", 11);
        tires("t20-5+4(1=1)", 19);
        tires("t40/4/2(1=1)", 5);
        tires("t40/4*2(1=1)", 20);
        tires("t17%5*3(1=1)", 6);
        tires("t3*17%5(1=1)", 1);
        tires("t2+3*4(1=1)", 14);
        tires("t2*3+4(1=1)", 10);
        tires("t[2+3]*4(1=1)", 20);
        tires("t50-2*3-4(1=1)", 40);
        tires("t50-[2*3-4](1=1)", 48);
    }

    static void promise06_numbersHaveOneToFiveDigits() {
        tires("t7(1=1)", 7);
        tires("t07(1=1)", 7);
        tires("t00007(1=1)", 7);
        holds("99999=99998+1");
        holds("10000>9999");
    }

    // ---- its letters ----

    static void promise06_lettersOnDuty() {
        StrongMen x = new StrongMen();
        x.house(0, 1, 0);
        x.house(5, 9, 0);
        x.man(15, 99);
        x.man(0, 1);
        Due.roster(x, 5, 3, "p");
        Due.roster(x, 0, 0, "a");
        x.thing(0, 5, 8, 8, 3);
        String[] letters = {"m", "s", "a", "l", "i", "c", "k", "g", "h", "n"};
        int[] ofP = {15, 99, 0, 93, 5, 3, 9, 3, 0, 0};
        int[] ofA = {0, 1, 0, 10, 0, 0, 1, 0, 0, 0};
        for (int k = 0; k < letters.length; k++) {
            Due.law(x, "t" + letters[k] + "(1=1)");
            is("p tires by " + letters[k], x.tried(1, 25), ofP[k]);
            is("a tires by " + letters[k], x.tried(1, 10), ofA[k]);
        }
        Due.law(x, "t5(1=1)");
        x.hours(1);
        is("tired", x.manIs(15, 1), 5);
        Due.law(x, "ta+1(1=1)");
        is("by how tired he is ahead of it", x.tried(1, 25), 11);
        Due.law(x, "tg*10+h(1=1)");
        is("sag of house 5 at corner 3, the hour", x.tried(1, 25), 5 + 61);
        is("sag of house 0 at corner 0, the hour", x.tried(1, 10), 5 + 31);
    }

    static void promise06_lettersAtEveryCorner() {
        for (int corner = 0; corner < 24; corner++) {
            StrongMen x = new StrongMen();
            x.house(corner / 4, 3, 0);
            x.man(9, 44);
            x.thing(0, corner / 4, corner % 2 * 8, corner / 2 % 2 * 8, 7);
            Due.roster(x, corner / 4, corner % 4, "j");
            String[] letters = {"i", "c", "k", "g", "l"};
            int[] due = {corner / 4, corner % 4, 3, corner % 4, 37};
            for (int k = 0; k < letters.length; k++) {
                Due.law(x, "t" + letters[k] + "(1=1)");
                is("corner " + corner + ", " + letters[k], x.tried(1, 19), due[k]);
            }
        }
    }

    static void promise06_theLoadIsRoundedDown() {
        StrongMen x = Edges.heldHouse();
        Due.law(x, "tl(1=1)");
        is("640 through 64", x.tried(1, 10), 10);
        x.thing(0, 0, 1, 1, 1);
        is("689 through 64", x.tried(1, 10), 10);
        is("load", x.load(0, 0), 689);
        x.thing(1, 0, 3, 5, 1);
        is("load", x.load(0, 0), 704);
        is("704 through 64", x.tried(1, 10), 11);
        x.thing(1, 0, 1, 6, 1);
        is("load", x.load(0, 0), 703);
        is("703 through 64", x.tried(1, 10), 10);
    }

    static void promise06_lToGAre0OffDuty() {
        rests("yl+i+c+k+g(1=1)", 50);
        rests("y7(l=0&i=0&c=0&k=0&g=0)", 43);
        rests("ym(1=1)", 46);
        rests("ys-50(1=1)", 40);
        rests("ya-30(1=1)", 30);
        rests("yh+2(1=1)", 47);
        rests("yn+2(1=1)", 48);
    }

    static void promise06_lToGAre0AlsoForWhoWasOnDutyAhead() {
        StrongMen x = new StrongMen();
        x.house(5, 9, 0);
        x.man(0, 9);
        x.man(15, 9);
        Due.roster(x, 5, 0, "pa");
        Due.law(x, "t50(1=1)");
        x.hours(1);
        Due.law(x, "yl+i+c+k+g+1(1=1)");
        is("p rests while a stands", x.tried(1, 25), 49);
    }

    static void promise06_hIs0To23() {
        StrongMen x = Edges.heldHouse();
        x.hours(22);
        Due.law(x, "th+1(1=1)");
        is("hour 22", x.tried(1, 10), 23);
        is("hours 22, 23", x.tried(2, 10), 23 + 24);
        is("hours 22, 23, 0", x.tried(3, 10), 23 + 24 + 1);
    }

    static void promise06_nIsTheDayModulo100() {
        StrongMen x = Edges.heldHouse();
        for (int k = 0; k < 9; k++) {
            x.hours(240);
        }
        x.hours(239);
        Due.law(x, "tn-90(1=1)");
        is("day 99, hour 23", x.tried(1, 10), 9);
        Due.law(x, "t1(n=0)");
        is("day 99 is not 0", x.tried(1, 10), 0);
        is("day 100 is 0", x.tried(2, 10), 1);
        x.hours(1);
        is("the day itself", x.count(1), 100);
        Due.law(x, "t0(1=1)");
        x.hours(24);
        Due.law(x, "tn(1=1)");
        is("day 101 is 1", x.tried(1, 10), 1);
    }

    static void promise06_xAndDAreAskedWhenHeHasTired() {
        letGo("t5(1=1);x(a=5&m=0)", 1);
        letGo("t5(1=1);x(a=0)", 0);
        StrongMen x = Edges.heldHouse();
        Due.law(x, "t5(1=1);d10(a=5&m<3)");
        is("a, b and c sneeze", x.tried(1, 1), 3);
        Due.law(x, "t5(1=1);d10(a=0)");
        is("nobody sneezes", x.tried(1, 1), 0);
    }
}
