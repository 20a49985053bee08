/** Each promise of the document: ordinary inputs, the edges that it names, and wrong inputs. */
public final class PromiseTest {
    private static final Due DUE = new Due();
    private static final int LOW = Integer.MIN_VALUE;
    private static final int HIGH = Integer.MAX_VALUE;

    public static void main(String[] args) {
        newObject();
        house();
        thing();
        man();
        feed();
        lawTexts();
        lawFaults();
        lawMeaning();
        rosterTexts();
        orderTexts();
        orderFaults();
        hours();
        hoursOfFallingHouses();
        draws();
        tried();
        houseIs();
        thingIs();
        manIs();
        dayAhead();
        load();
        duty();
        stands();
        fallsFirst();
        bed();
        stand();
        go();
        felt();
        twoFelt();
        knocked();
        fewest();
        strike();
        bricks();
        bread();
        beams();
        relieved();
        heaviest();
        seed();
        keepAndUndo();
        check();
        count();
        DUE.end("PromiseTest");
    }

    private static void is(String call, long got, long want) {
        DUE.is(call, got, want);
    }

    private static void is(String call, boolean got, boolean want) {
        DUE.is(call, got, want);
    }

    private static StrongMen oneHouse() {
        StrongMen x = new StrongMen();
        x.house(0, 1, 10);
        return x;
    }

    /** House 0 with a, b, c, d of strength 10, 20, 30, 40 at its corners, all day. */
    private static StrongMen heldHouse() {
        StrongMen x = oneHouse();
        for (int m = 0; m < 4; m++) {
            x.man(m, 10 * m + 10);
            Due.roster(x, 0, m, String.valueOf((char) ('a' + m)));
        }
        return x;
    }

    private static void bytesOn(StrongMen x, String call, int want) {
        is(call + ": bytes of the tape", x.count(7), want);
    }

    private static String times(int n, String part, String between) {
        StringBuilder text = new StringBuilder(part);
        for (int k = 1; k < n; k++) {
            text.append(between).append(part);
        }
        return text.toString();
    }

    private static int drawn(int x) {
        return (25173 * x + 13849) % 65536;
    }

    private static void newObject() {
        StrongMen x = new StrongMen();
        int[] counts = {0, 0, 0, 0, 0, 0, 0, 0, 1};
        for (int what = 0; what < counts.length; what++) {
            is("new, count(" + what + ")", x.count(what), counts[what]);
        }
        for (int k = 0; k < 24; k++) {
            is("new, houseIs", x.houseIs(k, 0), -1);
            is("new, thingIs", x.thingIs(k, 0), -1);
            is("new, manIs", x.manIs(k, 0), -1);
        }
        is("new, undo", x.undo(), false);
        is("new, heaviest", x.heaviest(0), -2);
        is("new, fewest", x.fewest(0), 0);
        is("new, fallsFirst", x.fallsFirst(240), -2);
        is("new, hours", x.hours(240), 0);
        is("new, the day", x.count(1), 10);
        is("NONE", StrongMen.NONE, -1);
    }

    private static void house() {
        StrongMen x = new StrongMen();
        int[][] wrong = {{-1, 1, 0}, {6, 1, 0}, {0, 0, 0}, {0, 10, 0}, {0, 1, -1}, {0, 1, 100},
            {LOW, 1, 0}, {HIGH, 1, 0}, {0, LOW, 0}, {0, HIGH, 0}, {0, 1, LOW}, {0, 1, HIGH}};
        for (int[] w : wrong) {
            is("house(" + w[0] + ", " + w[1] + ", " + w[2] + ")", x.house(w[0], w[1], w[2]), false);
        }
        is("no house", x.count(2), 0);
        is("house(5, 9, 99)", x.house(5, 9, 99), true);
        is("house(0, 1, 0)", x.house(0, 1, 0), true);
        is("two houses", x.count(2), 33);
        is("storeys", x.houseIs(5, 0), 9);
        is("place", x.houseIs(5, 1), 99);
        x.thing(3, 0, 1, 2, 7);
        x.man(0, 50);
        Due.roster(x, 0, 0, "aa");
        x.hours(1);
        is("it sags", x.houseIs(0, 2), 3);
        is("house again", x.house(0, 2, 8), true);
        is("sag is 0 again", x.houseIs(0, 2), 0);
        is("the thing stays", x.houseIs(0, 3), 1);
        is("the roster stays", x.relieved(0, 0, 3), 2);
        is("house refused", x.house(0, 10, 9), false);
        is("storeys stay", x.houseIs(0, 0), 2);
        is("place stays", x.houseIs(0, 1), 8);
    }

    private static void thing() {
        StrongMen x = oneHouse();
        int[][] wrong = {{-1, 0, 0, 0, 1}, {24, 0, 0, 0, 1}, {0, 1, 0, 0, 1}, {0, -1, 0, 0, 1},
            {0, 6, 0, 0, 1}, {0, 0, -1, 0, 1}, {0, 0, 9, 0, 1}, {0, 0, 0, -1, 1}, {0, 0, 0, 9, 1},
            {0, 0, 0, 0, 0}, {0, 0, 0, 0, 100}, {HIGH, 0, 0, 0, 1}, {0, LOW, 0, 0, 1},
            {0, 0, HIGH, 0, 1}, {0, 0, 0, LOW, 1}, {0, 0, 0, 0, LOW}};
        for (int[] w : wrong) {
            is("thing refused", x.thing(w[0], w[1], w[2], w[3], w[4]), false);
        }
        is("no thing", x.count(5), 0);
        is("thing(23, 0, 8, 8, 99)", x.thing(23, 0, 8, 8, 99), true);
        is("thing(0, 0, 0, 0, 1)", x.thing(0, 0, 0, 0, 1), true);
        is("two things", x.count(5), 2);
        x.house(4, 1, 0);
        is("in place of the one before", x.thing(23, 4, 3, 2, 9), true);
        is("still two", x.count(5), 2);
        is("its house", x.thingIs(23, 0), 4);
        is("its x", x.thingIs(23, 1), 3);
        is("its y", x.thingIs(23, 2), 2);
        is("its weight", x.thingIs(23, 3), 9);
    }

    private static void man() {
        StrongMen x = heldHouse();
        int[][] wrong = {{-1, 1}, {16, 1}, {0, 0}, {0, 100}, {LOW, 1}, {HIGH, 1}, {0, LOW}, {0, HIGH}};
        for (int[] w : wrong) {
            is("man(" + w[0] + ", " + w[1] + ")", x.man(w[0], w[1]), false);
        }
        is("man(15, 99)", x.man(15, 99), true);
        is("men", x.count(4), 0x800f);
        Due.law(x, "t7(1=1)");
        x.hours(1);
        is("tired", x.manIs(0, 1), 7);
        is("man again", x.man(0, 33), true);
        is("strength", x.manIs(0, 0), 33);
        is("not tired", x.manIs(0, 1), 0);
        is("another stays tired", x.manIs(1, 1), 7);
    }

    private static void feed() {
        StrongMen x = new StrongMen();
        for (int k = 1; k <= 13; k++) {
            is("feed " + k, x.feed(0, 0, 0, 0, 0), 20 * k);
        }
        is("feed beyond 260", x.feed(1, 2, 3, 4, 5), -1);
        bytesOn(x, "feed refused", 260);
        x.check(0);
        x.feed(0x01020304, 0x05060708, 0x09636261, 0, 0);
        is("the highest byte first: pieces 1, 2, 3", x.beams(3), 1 + 2 + 3 + 3);
        x.feed(0xff000000, 0, 0, 0, 0);
        is("bytes are not below 0", x.bread(2), 127);
    }

    private static void lawTexts() {
        StrongMen x = new StrongMen();
        is("law(1) without a tape", x.law(1), -1);
        Due.feed(x, "x(m=0)");
        for (int n : new int[] {0, -1, 21, 241, LOW, HIGH}) {
            is("law(" + n + ")", x.law(n), -1);
        }
        bytesOn(x, "law refused", 20);
        is("law(6)", x.law(6), 1);
        bytesOn(x, "law", 0);
        is("all signs", Due.law(x, "t1+2-3*4/5%6(m=s|a<l&i>c|!k=g);y[h]-n(((1=1)))"), 2);
        is("rules", x.count(6), 2);
        is("a fault", Due.law(x, "t5(m=0"), -1006);
        bytesOn(x, "a fault", 0);
        is("the rules before stay", x.count(6), 2);
        is("240 bytes", Due.law(x, "x(" + times(118, "1", "+") + "=1)"), 1);
        is("240 bytes", Due.law(x, "x(1" + times(118, "1", "+") + "=1"), -1240);
        is("240 bytes, a fault ahead of the end", Due.law(x, "x(1=" + times(117, "1", "+") + "))"), -1238);
        Due.feed(x, "x(1" + times(118, "1", "+") + "=1)");
        is("241 bytes", x.law(241), -1);
        bytesOn(x, "241 bytes", 260);
        x.check(0);
        is("sixteen", Due.law(x, times(16, "x(m=0)", ";")), 16);
        is("numbers of five digits", Due.law(x, "t99999(00000=0)"), 1);
    }

    private static void lawFaults() {
        StrongMen x = new StrongMen();
        String[] texts = {"z5(m=0)", "t", "t(m=0)", "x5(m=0)", "d5", "t5(m", "y5(m=0", "d5(b=0)", "x(m=0);",
            "x(m=0)x", "x(m=0);;", "t5(m)", "t5()", "t5+(m=0)", "t*(m=0)", "t5(m==0)", "t5(m=0&)",
            "t5(m=0|)", "t5(m=0&&m=1)", "t5(!)", "t[5(m=0)", "t5](m=0)", "t[](m=0)", "t5(m=0))", "t5m(m=0)",
            "t-5(m=0)", "t5((m)=0)", "t5(m=(0))", "t5(m<0>1)", "t5 (m=0)", "T5(m=0)", "t5(m=0&m)", "t5(x=0)",
            "x(!m)", "x((m=0&", "t" + (char) 255, "t5(m=" + (char) 0};
        int[] places = {0, 1, 1, 1, 2, 4, 6, 3, 7, 6, 7, 4, 3, 3, 1, 5, 7, 7, 7, 4, 3, 2, 2, 7, 2,
            1, 5, 5, 6, 2, 0, 8, 3, 4, 7, 1, 5};
        for (int k = 0; k < texts.length; k++) {
            is("fault 1 of " + texts[k], Due.law(x, texts[k]), -1000 - places[k]);
        }
        is("a sixth digit", Due.law(x, "t123456(m=0)"), -2006);
        is("a sixth digit", Due.law(x, "t5(m=000000)"), -2010);
        is("a 17th rule", Due.law(x, times(17, "x(m=0)", ";")), -4112);
        is("a 17th rule, its letter alone", Due.law(x, times(16, "x(m=0)", ";") + ";t"), -4112);
        is("no 17th rule", Due.law(x, times(16, "x(m=0)", ";") + ";z"), -1112);
        is("no 17th rule at the end", Due.law(x, times(16, "x(m=0)", ";") + ";"), -1112);
        is("six open", Due.law(x, "x((((((m=0))))))"), 1);
        is("a seventh (", Due.law(x, "x(((((((m=0)))))))"), -5007);
        is("a seventh [", Due.law(x, "x((((((m=[0]))))))"), -5009);
        is("six [ ahead of the (", Due.law(x, "t[[[[[[1]]]]]](m=0)"), 1);
        is("a seventh [ ahead of the (", Due.law(x, "t[[[[[[[1]]]]]]](m=0)"), -5007);
        is("five ! in the (", Due.law(x, "x(!!!!!m=0)"), 1);
        is("a sixth ! in the (", Due.law(x, "x(!!!!!!m=0)"), -5007);
        is("a ! is open till its test ends", Due.law(x, "x(!!!!![m]=0)"), -5007);
        is("and closed behind it", Due.law(x, "x(!!!!!m=0&[[[[[m]]]]]=0)"), 1);
        is("a ! in front of (", Due.law(x, "x(!(!(!(m=0))))"), -5007);
        is("a ! in front of (", Due.law(x, "x(!(!(!m=0)))"), 1);
        is("brackets one behind the other", Due.law(x, "x(" + times(30, "[1]", "+") + "=30)"), 1);
        is("what cannot stand there is no seventh", Due.law(x, "x((((((m(=0))))))"), -1008);
    }

    /** How tired man d (3) of strength 40 in corner 3 is behind an hour by a law. */
    private static int tiredBy(StrongMen x, String law) {
        int rules = Due.law(x, law);
        return rules < 0 ? rules : x.tried(1, 13);
    }

    private static void lawMeaning() {
        StrongMen x = heldHouse();
        x.thing(0, 0, 8, 8, 10);
        x.man(5, 60);
        Object[][] laws = {{"t5(1=1)", 5}, {"t99(1=1)", 99}, {"t100(1=1)", 99}, {"t0-5(1=1)", 0}, {"t5(1=2)", 0},
            {"t5(1=2);t6(1=1);t7(1=1)", 6}, {"tm(1=1)", 3}, {"ts(1=1)", 40}, {"ta+2(1=1)", 2}, {"tl(1=1)", 20},
            {"ti+1(1=1)", 1}, {"tc(1=1)", 3}, {"tk(1=1)", 1}, {"tg+1(1=1)", 1}, {"th+3(1=1)", 3}, {"tn+4(1=1)", 4},
            {"t2+3*4(1=1)", 14}, {"t[2+3]*4(1=1)", 20}, {"t20-5-4(1=1)", 11}, {"t40/4/2(1=1)", 5},
            {"t17%5*3(1=1)", 6}, {"t7*9%10/2(1=1)", 1}, {"t50+[0-7]/2(1=1)", 47}, {"t50+[0-7]%4(1=1)", 47},
            {"t1/0+9(1=1)", 0}, {"t1%0+9(1=1)", 0}, {"t5(1/0=0);t6(1=1)", 6}, {"t5(!1/0=0);t6(1=1)", 6},
            {"t5(1/0=0|1=1);t6(1=1)", 6}, {"t5(1=1|1/0=0);t6(1=1)", 5}, {"t5(1=2&1/0=0);t6(1=1)", 6},
            {"t5(!(1=2&1/0=0));t6(1=1)", 5}, {"t5((1=2&1/0=0)|1=1);t6(1=1)", 5}, {"t1/0(1=1);t6(1=1)", 0},
            {"t5(1=1|1=2&1=2)", 5}, {"t5((1=1|1=2)&1=2)", 0}, {"t5(1=2&1=2|1=1)", 5}, {"t5(1=1&1=2|1=2|1=1)", 5},
            {"t5(1=2|1=1&1=1)", 5}, {"t5(1=2|1=1&1=2)", 0}, {"t5(1=1&1=1&1=2)", 0}, {"t5(!1=2&1=2)", 0},
            {"t5(!1=2|1=2)", 5}, {"t5(!!1=1)", 5}, {"t5(!!1=2)", 0}, {"t5(1<2)", 5}, {"t5(2<2)", 0}, {"t5(3>2)", 5},
            {"t5(2>2)", 0}, {"t5(2>3)", 0}, {"t5(2=3)", 0}, {"t5(3<2)", 0}, {"t5(0-1<0)", 5}, {"t5(99999*99999<0)", 0}, {"t5(99999*99999=1409865409)", -2020},
            {"t99999*99999/99999(1=1)", 99}, {"t5(99999*30000<0)", 5}, {"t5([0-32768*65535-32768]/[0-1]<0)", 5},
            {"t5([0-32768*65535-32768]%[0-1]=0)", 5}, {"d10(1=1);t4(1=1);y3(1=1)", 4}};
        for (Object[] law : laws) {
            is("tired by " + law[0], tiredBy(x, (String) law[0]), (Integer) law[1]);
        }
        x.thing(0, 0, 8, 8, 9);
        x.thing(1, 0, 7, 8, 1);
        is("a load is rounded down", tiredBy(x, "tl(1=1)"), 19);
        x.hours(3);
        Due.law(x, "t20(1=1)");
        x.hours(2);
        dayOfTheLaw();
        is("f rests by all facts of y", restBy(x, "ym+s+l+i+c+k+g+h(1=1)"), 99 - 5 - 60 - 5);
        is("f rests by how tired he is", restBy(x, "ya-10(1=1)"), 10);
        is("f rests by the hour", restBy(x, "yh(1=1)"), 94);
        is("f rests no more than all", restBy(x, "y100(1=1)"), 0);
        is("f does not tire by resting", restBy(x, "y0-9(1=1)"), 99);
        is("nobody rests by t", restBy(x, "t9(1=1)"), 99);
    }

    private static void dayOfTheLaw() {
        StrongMen x = heldHouse();
        x.hours(240);
        Due.law(x, "tn(1=1)");
        is("day 10", x.tried(1, 10), 10);
        for (int k = 0; k < 9; k++) {
            Due.law(x, "t0(1=1)");
            x.hours(240);
        }
        Due.law(x, "tn+5(1=1)");
        is("day 100 is 0", x.tried(1, 10), 5);
        Due.law(x, "t0(1=1)");
        x.hours(24);
        Due.law(x, "tn+5(1=1)");
        is("day 101 is 1", x.tried(1, 10), 6);
        is("the day itself is counted on", x.count(1), 101);
    }

    /** How tired man f (5) off duty at hour 5 of day 0 is behind an hour by a law, tired 99 ahead of it. */
    private static int restBy(StrongMen x, String law) {
        StrongMen z = heldHouse();
        z.man(5, 60);
        z.house(1, 1, 50);
        for (int k = 0; k < 2; k++) {
            Due.roster(z, 1, k, "f");
        }
        Due.law(z, "t99(m=5)");
        z.hours(4);
        is("he is as tired as can be", z.manIs(5, 1), 99);
        is("his house has fallen", z.count(3), 2);
        z.house(1, 1, 50);
        Due.roster(z, 1, 0, ".");
        Due.roster(z, 1, 1, ".");
        Due.law(z, "t0(1=1)");
        z.hours(1);
        Due.law(z, law);
        return z.tried(1, 15);
    }

    private static void rosterTexts() {
        StrongMen x = oneHouse();
        is("roster(0, 0, 1) without a tape", x.roster(0, 0, 1), -1);
        Due.feed(x, "aaaaaaaaaaaaaaaaaaaaaaaaaaaaaaaaaaaaaaaaaaaaaaaaaa");
        int[][] wrong = {{-1, 0, 1}, {6, 0, 1}, {0, -1, 1}, {0, 4, 1}, {0, 0, 0}, {0, 0, -1}, {0, 0, 41},
            {LOW, 0, 1}, {0, HIGH, 1}, {0, 0, HIGH}};
        for (int[] w : wrong) {
            is("roster refused", x.roster(w[0], w[1], w[2]), -1);
        }
        bytesOn(x, "roster refused", 60);
        is("roster of 40 bytes", x.roster(5, 3, 40), 40);
        bytesOn(x, "roster", 0);
        Object[][] texts = {{"a", 1}, {"p", 1}, {".", 1}, {"q", -1000}, {"A", -1000}, {"1a", -1000}, {"0a", -1000},
            {"2a", 2}, {"9.", 9}, {"2", -1001}, {"22a", -1001}, {"()", -1001}, {"2()", -1002}, {"(2)", -1002},
            {"(a", -1002}, {"(", -1001}, {"a)", -1001}, {")", -1000}, {"2(2(2a))", 8}, {"(a)(b)(c)", 3},
            {"((a)(b))", 2}, {"(((a)))", -5002}, {"2(2(2(a)))", -5005}, {"(a(b(c", -5004}, {"((a)((b", -5005},
            {"a b", -1001}, {"9(5a)", 45}, {"8(6a)", 48}, {"7(7a)", -6000}, {"a7(7a)", -6001}, {"9(9(9a))", -6002},
            {"9a9a9a9a9a9a", -6010}, {"9a9a9a9a9aaaa", 48}, {"9a9a9a9a9aaaaa", -6013}, {"2(9a9a9a", -1008},
            {"2(9a9a9a)", -6000}, {"2(9a9a9a*", -1008}, {"(9a9a9a9a9a9a", -6011}, {"9a(9a9a9a9a3a", -1013},
            {"9a(9a9a9a9a3a)", 48}, {"9a(9a9a9a9a4a)", -6011}, {"2(a2(9a9a))", -6000}, {"3(a2(9a9a9a))", -6003}};
        for (Object[] text : texts) {
            is("roster " + text[0], Due.roster(x, 0, 1, (String) text[0]), (Integer) text[1]);
            bytesOn(x, "roster " + text[0], 0);
        }
        is("what stands is the last without a fault", x.relieved(0, 1, 3), 48);
        x.man(0, 9);
        x.man(1, 9);
        is("2(a2(b.))c", Due.roster(x, 0, 0, "2(a2(b.))c"), 11);
        int[] spelt = {0, 1, -2, 1, -2, 0, 1, -2, 1, -2, -2};
        for (int hour = 0; hour < 50; hour++) {
            is("hour " + hour + " of 2(a2(b.))c", x.duty(0, 0), spelt[hour % 11]);
            x.hours(1);
        }
        is("a new roster goes on from hour 0 of day 0", Due.roster(x, 0, 0, "..a"), 3);
        is("it is hour 50", x.duty(0, 0), 0);
    }

    private static void orderTexts() {
        StrongMen x = heldHouse();
        x.house(5, 1, 50);
        is("orders(1) without a tape", x.orders(1), -1);
        Due.feed(x, "a1" + ";a1".repeat(42));
        for (int n : new int[] {0, -1, 121, 141, LOW, HIGH}) {
            is("orders(" + n + ")", x.orders(n), -1);
        }
        bytesOn(x, "orders refused", 140);
        is("orders(59)", x.orders(59), 20);
        bytesOn(x, "orders", 0);
        x.thing(0, 0, 1, 2, 10);
        x.thing(7, 0, 1, 2, 20);
        x.thing(23, 0, 1, 2, 30);
        is("0>80;07@5;23!", Due.orders(x, "0>80;07@5;23!"), 3);
        is("x of 0", x.thingIs(0, 1), 8);
        is("y of 0", x.thingIs(0, 2), 0);
        is("house of 7", x.thingIs(7, 0), 5);
        is("the same spot", x.thingIs(7, 1) * 10 + x.thingIs(7, 2), 12);
        is("23 is taken out", x.thingIs(23, 0), -1);
        is("things", x.count(5), 2);
        is("00@5;0>08;7@0", Due.orders(x, "00@5;0>08;7@0"), 3);
        is("house of 0", x.thingIs(0, 0), 5);
        is("spot of 0", x.thingIs(0, 1) * 10 + x.thingIs(0, 2), 8);
        Due.law(x, "t50(1=1)");
        x.hours(1);
        is("a9;b49;c50;d99", Due.orders(x, "a9;b49;c50;d99"), 4);
        is("a is less tired", x.manIs(0, 1), 41);
        is("b is less tired", x.manIs(1, 1), 1);
        is("c is not tired", x.manIs(2, 1), 0);
        is("0 at least", x.manIs(3, 1), 0);
        is("no less tired", Due.orders(x, "a0"), 1);
        is("a is as tired", x.manIs(0, 1), 41);
        is("a man twice", Due.orders(x, "a09;a1"), 2);
        is("both count", x.manIs(0, 1), 31);
        is("a fault behind what can be done", Due.orders(x, "a9;0>11;7!;0>9"), -1013);
        is("nothing is done", x.manIs(0, 1) * 10000 + x.thingIs(0, 1) * 100 + x.count(5), 310002);
    }

    private static void orderFaults() {
        StrongMen x = heldHouse();
        x.thing(0, 0, 1, 2, 10);
        x.thing(12, 0, 1, 2, 10);
        Object[][] texts = {{"0", -1001}, {"0;", -1001}, {"x1", -1000}, {"q1", -1000}, {">", -1000}, {";", -1000},
            {"0>", -1002}, {"0>9", -1002}, {"0>3", -1003}, {"0>39", -1003}, {"0>345", -1004}, {"0@", -1002},
            {"0@6", -1002}, {"0@1", -7002}, {"0@00", -1003}, {"0!1", -1002}, {"a", -1001}, {"aa", -1001},
            {"a1a", -1002}, {"a123", -2003}, {"123!", -2002}, {"999", -2002}, {"24!", -7000}, {"1!", -7000},
            {"1", -7000}, {"1*", -7000}, {"12", -1002}, {"01>00", -7000}, {"e1", -7000}, {"e", -7000}, {"e123", -7000},
            {"0!;0!", -7003}, {"0!;00>11", -7003}, {"0!;12!;012!", -2009}, {"0>11;", -1005}, {"0>11;;", -1005},
            {"0>11 ", -1004}, {"0>11;1!;z", -7005}, {"a5;0 >11", -1004}};
        for (Object[] text : texts) {
            is("orders " + text[0], Due.orders(x, (String) text[0]), (Integer) text[1]);
            bytesOn(x, "orders " + text[0], 0);
        }
        String twenty = times(20, "a1", ";");
        is("a 21st line", Due.orders(x, twenty + ";a1"), -4060);
        is("a 21st line of a man not told", Due.orders(x, twenty + ";e1"), -4060);
        is("a 21st line of a thing not told", Due.orders(x, twenty + ";9!"), -4060);
        is("no 21st line", Due.orders(x, twenty + ";q"), -1060);
        is("no 21st line at the end", Due.orders(x, twenty + ";"), -1060);
        is("things", x.count(5), 2);
    }

    private static void hours() {
        StrongMen x = heldHouse();
        for (int n : new int[] {0, -1, 241, LOW, HIGH}) {
            is("hours(" + n + ")", x.hours(n), -1);
        }
        is("no hour went by", x.count(0), 0);
        is("all are held", x.hours(23), 0);
        is("the hour", x.count(0), 23);
        is("hours(1)", x.hours(1), 0);
        is("the hour behind 23", x.count(0), 0);
        is("the day", x.count(1), 1);
        x.house(1, 1, 20);
        Due.roster(x, 1, 0, "a");
        Due.roster(x, 1, 1, "e");
        is("a stands elsewhere, e is not told, no rosters", x.hours(1), 4);
        Due.law(x, "t30(m<2);t10(1=1);y7(m=4);y3(1=1)");
        x.man(4, 9);
        x.man(6, 9);
        Due.roster(x, 1, 1, ".e");
        is("at hour 25 e stands", x.hours(1), 3);
        int[] first = {30, 30, 10, 10, 10, 0, 0};
        for (int m = 0; m < 7; m++) {
            is("tired by the law, man " + m, x.manIs(m, 1), m == 5 ? -1 : first[m]);
        }
        x.house(1, 1, 20);
        is("at hour 26 e does not", x.hours(1), 4);
        is("e rests", x.manIs(4, 1), 3);
        x.house(1, 1, 20);
        x.hours(1);
        is("e is tired", x.manIs(4, 1), 13);
        is("a is tired 99 from the 4th hour on", x.manIs(0, 1), 90);
        x.house(1, 1, 20);
        is("a and b let go", x.hours(1), 4 + 2);
        is("99 at most", x.manIs(0, 1), 99);
        is("sag of house 0", x.houseIs(0, 2), 2);
    }

    private static void hoursOfFallingHouses() {
        StrongMen x = oneHouse();
        x.house(1, 1, 20);
        x.man(0, 9);
        Due.roster(x, 0, 3, "a");
        Due.roster(x, 1, 0, "a");
        Due.law(x, "ti*10+5(1=1);y2(1=1)");
        is("7 corners of nobody", x.hours(1), 7);
        is("a in house 0", x.manIs(0, 1), 5);
        is("house 1 falls", x.tried(3, 31), 9);
        x.house(1, 1, 20);
        x.hours(1);
        x.house(1, 1, 20);
        is("house 0 falls ahead of its corner 3, a goes to house 1", x.hours(1), 3 + 3);
        is("house 0", x.houseIs(0, 2), 9);
        is("house 1", x.houseIs(1, 2), 3);
        is("a in house 1", x.manIs(0, 1), 25);
        is("where he stands", x.manIs(0, 2), 4);
        is("house 1 sags on, house 0 no more", x.hours(1), 3);
        is("house 1 falls at its corner 3", x.hours(1), 3);
        is("a stood there", x.manIs(0, 1), 55);
        is("none stands", x.hours(1), 0);
        is("a rests", x.manIs(0, 1), 53);
        is("fallen", x.count(3), 3);
        x.man(1, 9);
        StrongMen z = oneHouse();
        is("9 at most", z.hours(240), 9);
    }

    private static void draws() {
        StrongMen x = heldHouse();
        int now = 1;
        Due.law(x, "d5(1=1)");
        int sneezes = 0;
        int sag = 0;
        for (int hour = 0; hour < 2; hour++) {
            int before = sag;
            for (int c = 0; c < 4; c++) {
                now = drawn(now);
                sneezes += now % 10 < 5 ? 1 : 0;
            }
            sag = sneezes;
            is("sneezes of hour " + hour, x.hours(1), sag - before);
            is("X behind hour " + hour, x.count(8), now);
        }
        Due.law(x, "x(1=1)");
        x.house(0, 1, 10);
        is("all let go", x.hours(1), 4);
        is("none was drawn", x.count(8), now);
        Due.law(x, "d0(1=1)");
        is("none sneezes", x.hours(1), 0);
        for (int c = 0; c < 4; c++) {
            now = drawn(now);
        }
        is("all were drawn", x.count(8), now);
        Due.law(x, "t99(m=0);x(a=0&m=1)");
        is("a is tired, b lets go", x.hours(1), 2);
        now = drawn(drawn(now));
        is("of c and d is drawn", x.count(8), now);
        Due.roster(x, 0, 3, ".");
        Due.law(x, "t1(1=1);x(a=1&m=1);x(m=1)");
        is("x is asked when he is tired; once for him; a is 99", x.hours(1), 3);
        now = drawn(now);
        is("of c alone is drawn", x.count(8), now);
        x.house(0, 1, 10);
        Due.law(x, "dg*10(1=1);x(a=98)");
        is("d is asked with the sag of then", x.hours(1), 1 + 1 + 1 + 1);
        Due.law(x, "d11(1=1)");
        x.man(0, 9);
        x.house(0, 1, 10);
        is("d above its bound", x.tried(1, 1), 3);
        Due.law(x, "d0-1(1=1)");
        is("d below its bound", x.tried(1, 1), 0);
    }

    private static void tried() {
        StrongMen x = heldHouse();
        x.house(2, 1, 30);
        for (int n : new int[] {0, -1, 241, LOW, HIGH}) {
            is("tried(" + n + ", 0)", x.tried(n, 0), -1);
        }
        for (int what : new int[] {-1, 4, 9, 14, 25, 26, 29, 31, 33, 35, 36, LOW, LOW + 9, LOW + 29, HIGH}) {
            is("tried(1, " + what + ")", x.tried(1, what), -1);
        }
        Due.law(x, "t10(1=1);d3(1=1)");
        int now = 1;
        int sneezes = 0;
        for (int k = 0; k < 8; k++) {
            now = drawn(now);
            sneezes += now % 10 < 3 ? 1 : 0;
        }
        is("sag", x.tried(2, 0), sneezes + 8);
        is("sneezes", x.tried(2, 1), sneezes);
        is("nobody", x.tried(2, 2), 8);
        is("none fell", x.tried(2, 3), 0);
        is("house 2 fell", x.tried(3, 3), 1);
        is("nobody, till it fell", x.tried(3, 2), 9);
        is("tired", x.tried(3, 13), 30);
        is("sag of house 2", x.tried(2, 32), 8);
        is("sag of house 0", x.tried(2, 30), sneezes);
        is("nothing is changed", x.count(0) + x.houseIs(2, 2) + x.manIs(0, 1), 0);
        is("X stays", x.count(8), 1);
        int all = x.tried(240, 0);
        is("as when they go by", x.hours(240), all);
        is("both have fallen", all, 18);
    }

    private static void houseIs() {
        StrongMen x = oneHouse();
        x.house(3, 4, 77);
        x.thing(5, 3, 0, 0, 10);
        x.thing(9, 3, 8, 4, 20);
        x.thing(10, 0, 8, 4, 30);
        int[] want = {4, 77, 0, 2, 640, 30};
        for (int what = 0; what < want.length; what++) {
            is("houseIs(3, " + what + ")", x.houseIs(3, what), want[what]);
        }
        for (int what : new int[] {-1, 6, LOW, HIGH}) {
            is("houseIs(3, " + what + ")", x.houseIs(3, what), -1);
        }
        for (int i : new int[] {-1, 1, 6, LOW, HIGH}) {
            is("houseIs(" + i + ", 0)", x.houseIs(i, 0), -1);
        }
        x.thing(0, 3, 8, 8, 40);
        is("the greatest at 3, the least at 2", x.houseIs(3, 4), 40 * 64 + 640);
        x.thing(0, 3, 8, 0, 40);
        is("the greatest at 1, the least at 2", x.houseIs(3, 4), 40 * 64 + 640);
        x.thing(0, 3, 0, 8, 40);
        is("the greatest at 2, the least at 0, 1 or 3", x.houseIs(3, 4), 40 * 64 - 640);
        is("weight of all, the lowest too", x.houseIs(3, 5), 70);
        Due.orders(x, "0!");
        is("of another house", x.houseIs(0, 4) * 100 + x.houseIs(0, 5), 960 * 100 + 30);
        x.hours(1);
        is("sag", x.houseIs(3, 2), 4);
    }

    private static void thingIs() {
        StrongMen x = oneHouse();
        x.thing(23, 0, 3, 4, 55);
        int[] want = {0, 3, 4, 55, -1, -1};
        for (int what = 0; what < want.length; what++) {
            is("thingIs(23, " + what + ")", x.thingIs(23, what), want[what]);
        }
        is("thingIs(23, -1)", x.thingIs(23, -1), -1);
        for (int t : new int[] {-1, 0, 24, LOW, HIGH}) {
            is("thingIs(" + t + ", 0)", x.thingIs(t, 0), -1);
        }
    }

    private static void manIs() {
        StrongMen x = heldHouse();
        x.house(2, 3, 40);
        x.man(4, 44);
        x.man(15, 15);
        Due.roster(x, 2, 1, "ae");
        Due.roster(x, 2, 3, "eea");
        Due.roster(x, 1, 0, "p");
        is("strength", x.manIs(4, 0), 44);
        is("tired", x.manIs(4, 1), 0);
        is("where a stands", x.manIs(0, 2), 0);
        is("where d stands", x.manIs(3, 2), 3);
        is("where e stands", x.manIs(4, 2), 11);
        is("where p stands, whose house is not told", x.manIs(15, 2), -2);
        is("a twice: even hours, or hours 2 of 3", x.manIs(0, 3), 12 + 8 - 4);
        is("e twice: odd hours that are 0 or 1 of 3", x.manIs(4, 3), 8);
        is("a is paid in house 0", x.manIs(0, 4), 24);
        is("e is paid in house 2", x.manIs(4, 4), 3 * (12 + 8));
        is("p is not paid", x.manIs(15, 4), 0);
        x.hours(2);
        is("where e stands at hour 2", x.manIs(4, 2), -2);
        x.hours(240);
        is("house 2 has fallen", x.count(3), 4);
        is("where e stands then", x.manIs(4, 2), -2);
        is("a stands once", x.manIs(0, 3), 0);
        is("e is not paid", x.manIs(4, 4), 0);
        for (int what : new int[] {-1, 5, LOW, HIGH}) {
            is("manIs(0, " + what + ")", x.manIs(0, what), -1);
        }
        for (int m : new int[] {-1, 5, 16, LOW, HIGH}) {
            is("manIs(" + m + ", 0)", x.manIs(m, 0), -1);
        }
    }

    /** The day goes ahead from the hour: a has 3 hours of 48, then none. */
    private static void dayAhead() {
        StrongMen x = new StrongMen();
        x.house(0, 2, 0);
        x.house(1, 3, 0);
        x.man(0, 1);
        x.man(1, 1);
        Due.roster(x, 0, 0, "3a9(4.)9.");
        is("paid for 3 hours", x.manIs(0, 4), 6);
        is("once", x.manIs(0, 3), 0);
        is("who strikes", x.strike(1, 1), 1);
        is("for 3 hours", x.strike(1, 0), 3);
        is("and another", x.strike(2, 1), 3);
        Due.roster(x, 0, 1, "3a9(4.)9.");
        is("twice in corners 0 and 1", x.manIs(0, 3), 3);
        is("paid for one of two", x.manIs(0, 4), 6);
        is("he is missed once", x.strike(1, 0), 3);
        Due.roster(x, 0, 0, ".");
        Due.roster(x, 1, 3, "3a9(4.)9.");
        is("twice in two houses", x.manIs(0, 3), 3);
        is("the lowest pays", x.manIs(0, 4), 6);
        Due.roster(x, 0, 1, ".");
        is("the other pays", x.manIs(0, 4), 9);
        is("where he stands", x.manIs(0, 2), 7);
        is("duty(1, 3)", x.duty(1, 3), 0);
        is("relieved(1, 3, 1)", x.relieved(1, 3, 1), 21);
        is("relieved(1, 3, 2)", x.relieved(1, 3, 2), 3);
        x.hours(2);
        is("at hour 2", x.manIs(0, 4), 3);
        x.hours(1);
        is("none is left", x.manIs(0, 4), 0);
        x.hours(22);
        x.house(1, 3, 0);
        is("hours 48 of the roster are hours 0 again", x.manIs(0, 4), 3);
    }

    private static void load() {
        StrongMen x = new StrongMen();
        x.house(1, 2, 0);
        for (int c = 0; c < 4; c++) {
            is("empty", x.load(1, c), 1280);
        }
        x.thing(0, 1, 3, 1, 10);
        int[] one = {350, 210, 50, 30};
        for (int c = 0; c < 4; c++) {
            is("load(1, " + c + ")", x.load(1, c), 1280 + one[c]);
        }
        x.thing(1, 1, 8, 0, 99);
        is("at its corner", x.load(1, 1), 1280 + 210 + 99 * 64);
        is("not at another", x.load(1, 0), 1280 + 350);
        int[][] wrong = {{0, 0}, {-1, 0}, {6, 0}, {1, -1}, {1, 4}, {LOW, 0}, {1, HIGH}};
        for (int[] w : wrong) {
            is("load(" + w[0] + ", " + w[1] + ")", x.load(w[0], w[1]), -1);
        }
    }

    private static void duty() {
        StrongMen x = oneHouse();
        x.man(1, 9);
        Due.roster(x, 0, 2, "ab.");
        int[] want = {-2, 1, -2, -2, 1};
        for (int w : want) {
            is("duty(0, 2)", x.duty(0, 2), w);
            x.hours(1);
        }
        is("the house has fallen", x.count(3), 1);
        is("it still has a roster", x.duty(0, 2), -2);
        x.hours(2);
        is("at hour 7", x.duty(0, 2), 1);
        is("without a roster", x.duty(0, 0), -2);
        int[][] wrong = {{1, 0}, {-1, 0}, {6, 0}, {0, -1}, {0, 4}, {HIGH, 0}, {0, LOW}};
        for (int[] w : wrong) {
            is("duty(" + w[0] + ", " + w[1] + ")", x.duty(w[0], w[1]), -1);
        }
    }

    private static void stands() {
        StrongMen x = heldHouse();
        x.house(1, 1, 0);
        Due.roster(x, 1, 0, "e");
        x.man(4, 9);
        is("held", x.stands(0, 240), -2);
        is("three corners", x.stands(1, 240), 3);
        is("not in two", x.stands(1, 2), -2);
        is("in three", x.stands(1, 3), 3);
        for (int n : new int[] {0, -1, 241, LOW, HIGH}) {
            is("stands(1, " + n + ")", x.stands(1, n), -1);
        }
        for (int i : new int[] {-1, 2, 6, LOW, HIGH}) {
            is("stands(" + i + ", 1)", x.stands(i, 1), -1);
        }
        is("nothing is changed", x.count(0) + x.count(3), 0);
        x.hours(3);
        is("now", x.stands(1, 1), 0);
        is("now, but no such n", x.stands(1, 0), -1);
    }

    private static void fallsFirst() {
        StrongMen x = heldHouse();
        x.house(1, 1, 0);
        x.house(2, 1, 0);
        x.house(3, 1, 0);
        x.man(4, 9);
        x.man(5, 9);
        x.man(6, 9);
        Due.roster(x, 1, 0, "e");
        Due.roster(x, 1, 1, "f");
        StrongMen z = new StrongMen();
        z.house(0, 1, 0);
        z.hours(2);
        is("house 0 in the next hour", z.fallsFirst(1), 0);
        is("two at once: the lowest", x.fallsFirst(240), 2);
        is("not in two hours", x.fallsFirst(2), -2);
        is("in three", x.fallsFirst(3), 2);
        x.hours(3);
        is("those that have fallen do not fall", x.fallsFirst(240), 1);
        x.hours(2);
        is("the last one is held", x.fallsFirst(240), -2);
        is("three have fallen", x.count(3), 14);
        for (int n : new int[] {0, -1, 241, LOW, HIGH}) {
            is("fallsFirst(" + n + ")", x.fallsFirst(n), -1);
        }
    }

    private static void bed() {
        StrongMen x = oneHouse();
        is("in the middle: x", x.bed(0, 10, 0), 4);
        is("in the middle: y", x.bed(0, 10, 1), 4);
        is("in the middle: the load", x.bed(0, 10, 2), 800);
        x.thing(0, 0, 0, 0, 99);
        is("any spot on the far sides will do: x", x.bed(0, 1, 0), 8);
        is("the lowest y", x.bed(0, 1, 1), 0);
        is("the load", x.bed(0, 1, 2), 640 + 99 * 64);
        x.thing(0, 0, 8, 0, 99);
        is("the lowest x", x.bed(0, 1, 0) * 10 + x.bed(0, 1, 1), 0);
        x.thing(0, 0, 8, 8, 99);
        is("the lowest x and y", x.bed(0, 99, 0) * 10 + x.bed(0, 99, 1), 0);
        int[][] wrong = {{1, 1, 0}, {-1, 1, 0}, {6, 1, 0}, {0, 0, 0}, {0, 100, 0}, {0, 1, -1}, {0, 1, 3},
            {LOW, 1, 0}, {0, HIGH, 0}, {0, 1, LOW}};
        for (int[] w : wrong) {
            is("bed refused", x.bed(w[0], w[1], w[2]), -1);
        }
        is("no bed is put", x.count(5), 1);
    }

    private static void stand() {
        StrongMen x = heldHouse();
        x.thing(0, 0, 8, 8, 90);
        int[] want = {0, 1, 2, 3, 160, 1};
        for (int what = 0; what < 6; what++) {
            is("stand(0, 15, " + what + ")", x.stand(0, 15, what), want[what]);
        }
        x.thing(0, 0, 8, 0, 60);
        int[] second = {0, 3, 1, 2, 112, 1};
        for (int what = 0; what < 6; what++) {
            is("stand(0, 15, " + what + ")", x.stand(0, 15, what), second[what]);
        }
        x.thing(0, 0, 0, 8, 60);
        int[] third = {0, 1, 3, 2, 112, 1};
        for (int what = 0; what < 6; what++) {
            is("stand(0, 15, " + what + ")", x.stand(0, 15, what), third[what]);
        }
        x.thing(0, 0, 0, 0, 60);
        int[] turned = {3, 0, 1, 2, 112, 1};
        for (int what = 0; what < 6; what++) {
            is("stand(0, 15, " + what + ")", x.stand(0, 15, what), turned[what]);
        }
        x.man(15, 99);
        x.thing(0, 0, 0, 0, 99);
        int[] strong = {15, 1, 2, 3, 6976, 99};
        for (int what = 0; what < 6; what++) {
            is("stand(0, 0x800e, " + what + ")", x.stand(0, 0x800e, what), strong[what]);
        }
        for (int men : new int[] {0, 7, 31, 0x1e, 0x1000f, 0x80000007, -1, LOW, HIGH}) {
            is("stand(0, " + men + ", 0)", x.stand(0, men, 0), -1);
        }
        int[][] wrong = {{1, 0}, {-1, 0}, {6, 0}, {0, -1}, {0, 6}, {LOW, 0}, {0, HIGH}};
        for (int[] w : wrong) {
            is("stand(" + w[0] + ", 15, " + w[1] + ")", x.stand(w[0], 15, w[1]), -1);
        }
    }

    private static void go() {
        StrongMen x = heldHouse();
        is("nothing has to go", x.go(0, 0), 0);
        is("nothing has to go", x.go(0, 1), 0);
        x.thing(3, 0, 0, 0, 1);
        x.thing(7, 0, 8, 0, 10);
        x.thing(9, 0, 8, 0, 10);
        x.thing(20, 0, 0, 0, 2);
        is("a can carry 640, b 1280: three go", x.go(0, 0), 3);
        is("7 or 9 may go: the least bits of 3, 7, 9, 20", x.go(0, 1), 1 | 2 | 8);
        x.man(0, 11);
        is("of 3 and 20 one goes", x.go(0, 0), 2);
        is("the heavier one, 20, and 7 or 9: the least bits", x.go(0, 1), 8 | 2);
        x.thing(9, 0, 8, 0, 11);
        is("now 9 alone is enough", x.go(0, 1), 8 | 4);
        x.man(0, 9);
        is("not even by all", x.go(0, 0), -2);
        is("not even by all", x.go(0, 1), -2);
        x.man(0, 99);
        Due.roster(x, 0, 2, ".a");
        is("nobody: 0", x.go(0, 0), -2);
        Due.roster(x, 0, 2, "a");
        is("by the roster, whoever stands elsewhere", x.go(0, 0), 1);
        goByTheLeast();
        for (int t = 0; t < 12; t++) {
            x.thing(t, 0, 8, 8, 99);
        }
        Due.orders(x, "20!");
        x.man(1, 99);
        is("twelve things", x.go(0, 0), 12);
        is("all of them", x.go(0, 1), 4095);
        x.thing(12, 0, 0, 0, 1);
        is("thirteen", x.go(0, 0), -3);
        is("thirteen", x.go(0, 1), -3);
        int[][] wrong = {{1, 0}, {-1, 0}, {6, 0}, {0, -1}, {0, 2}, {HIGH, 0}, {0, LOW}};
        for (int[] w : wrong) {
            is("go(" + w[0] + ", " + w[1] + ")", x.go(w[0], w[1]), -1);
        }
    }

    /** Each corner by itself: a strength that is just enough, and one that is one too little. */
    private static void goByTheLeast() {
        for (int c = 0; c < 4; c++) {
            StrongMen x = heldHouse();
            for (int m = 0; m < 4; m++) {
                x.man(m, m == c ? 90 : 10);
            }
            x.thing(0, 0, c % 2 * 8, c / 2 * 8, 80);
            is("90 carry 10 and 80 at corner " + c, x.go(0, 0), 0);
            x.man(c, 89);
            is("89 do not at corner " + c, x.go(0, 0), 1);
            x.man(c, 9);
            is("9 carry nothing at corner " + c, x.go(0, 0), -2);
        }
    }

    private static void felt() {
        StrongMen x = oneHouse();
        x.thing(0, 0, 0, 0, 10);
        for (int y = 0; y < 9; y++) {
            for (int at = 0; at < 9; at++) {
                int[] loads = {1280 + 7 * (8 - at) * (8 - y), 640 + 7 * at * (8 - y), 640 + 7 * (8 - at) * y,
                    640 + 7 * at * y};
                is("felt at " + at + ", " + y, Due.felt(x, 0, 7, 0, loads), 1);
                is("its x", Due.felt(x, 0, 7, 1, loads), at);
                is("its y", Due.felt(x, 0, 7, 2, loads), y);
                is("not another weight", Due.felt(x, 0, 8, 0, loads), 0);
                is("not nowhere", Due.felt(x, 0, 8, 2, loads), -2);
                loads[(at + y) % 4]++;
                is("not one 64th off", Due.felt(x, 0, 7, 0, loads), 0);
                is("nowhere", Due.felt(x, 0, 7, 1, loads), -2);
            }
        }
        StrongMen z = oneHouse();
        for (int t = 0; t < 24; t++) {
            z.thing(t, 0, 8, 8, 99);
        }
        int heavy = 640 + 24 * 99 * 64;
        is("a load of three bytes", Due.felt(z, 0, 2, 0, 640, 640, 640, heavy + 128), 1);
        is("not with a fourth", Due.felt(z, 0, 2, 0, 640, 640, 640, heavy + 128 + (1 << 24)), 0);
        is("not with a fourth", Due.felt(z, 0, 2, 0, 640 + LOW, 640, 640, heavy + 128), 0);
        is("loads below 0", Due.felt(x, 0, 1, 0, LOW, LOW, HIGH, HIGH), 0);
        is("loads below 0", Due.felt(x, 0, 1, 1, -1, -1, -1, -1), -2);
        is("nobody", Due.felt(x, 0, 1, 0, 1280, 640, 640, 640), 0);
        bytesOn(x, "felt", 0);
        is("felt without a tape", x.felt(0, 7, 0), -1);
        x.feed(1280, 640, 640, 640 + 64, 0);
        int[][] wrong = {{1, 1, 0}, {-1, 1, 0}, {6, 1, 0}, {0, 0, 0}, {0, 100, 0}, {0, 1, -1}, {0, 1, 3},
            {LOW, 1, 0}, {0, HIGH, 0}, {0, 1, LOW}};
        for (int[] w : wrong) {
            is("felt refused", x.felt(w[0], w[1], w[2]), -1);
        }
        bytesOn(x, "felt refused", 20);
        is("felt", x.felt(0, 1, 1), 8);
    }

    private static void twoFelt() {
        StrongMen x = oneHouse();
        is("two alike at unlike spots", Due.twoFelt(x, 0, 5, 5, 0, 960, 640, 640, 960), 2);
        is("two alike at one spot", Due.twoFelt(x, 0, 5, 5, 0, 1280, 640, 640, 640), 1);
        is("the first one's x", Due.twoFelt(x, 0, 4, 5, 1, 960, 640, 640, 896), 8);
        is("the first one's y", Due.twoFelt(x, 0, 4, 5, 2, 960, 640, 640, 896), 8);
        is("one way", Due.twoFelt(x, 0, 4, 5, 0, 960, 640, 640, 896), 1);
        is("the other way round", Due.twoFelt(x, 0, 5, 4, 1, 960, 640, 640, 896), 0);
        is("the middle by 1 and 1: all spots with their mirrors that make 16 at each corner",
            Due.twoFelt(x, 0, 1, 1, 0, 672, 672, 672, 672), mirrored());
        is("nobody", Due.twoFelt(x, 0, 1, 1, 0, 640, 640, 640, 640), 0);
        is("nowhere", Due.twoFelt(x, 0, 1, 1, 1, 640, 640, 640, 640), -2);
        is("nowhere", Due.twoFelt(x, 0, 1, 1, 2, LOW, HIGH, LOW, HIGH), -2);
        bytesOn(x, "twoFelt", 0);
        is("twoFelt without a tape", x.twoFelt(0, 1, 1, 0), -1);
        x.feed(960, 640, 640, 960, 0);
        int[][] wrong = {{1, 5, 5, 0}, {-1, 5, 5, 0}, {6, 5, 5, 0}, {0, 0, 5, 0}, {0, 100, 5, 0}, {0, 5, 0, 0},
            {0, 5, 100, 0}, {0, 5, 5, -1}, {0, 5, 5, 3}, {LOW, 5, 5, 0}, {0, HIGH, 5, 0}, {0, 5, LOW, 0}};
        for (int[] w : wrong) {
            is("twoFelt refused", x.twoFelt(w[0], w[1], w[2], w[3]), -1);
        }
        bytesOn(x, "twoFelt refused", 20);
        is("twoFelt", x.twoFelt(0, 5, 5, 2), 0);
    }

    /** In how many ways two of weight 1 make 32 at every corner. */
    private static int mirrored() {
        int ways = 0;
        for (int one = 0; one < 81; one++) {
            for (int two = 0; two < 81; two++) {
                int a = one % 9;
                int b = one / 9;
                int c = two % 9;
                int d = two / 9;
                ways += (8 - a) * (8 - b) + (8 - c) * (8 - d) == 32 && a * (8 - b) + c * (8 - d) == 32
                    && (8 - a) * b + (8 - c) * d == 32 && a * b + c * d == 32 ? 1 : 0;
            }
        }
        return ways;
    }

    private static void knocked() {
        StrongMen x = new StrongMen();
        x.house(0, 1, 10);
        x.house(1, 2, 13);
        x.house(2, 1, 19);
        x.house(3, 9, 23);
        x.house(4, 1, 23);
        is("0 to the right: 1, by it 2", x.knocked(0, true), 7);
        is("0 to the left", x.knocked(0, false), 1);
        is("2 to the right: 3 is 4 away", x.knocked(2, true), 4);
        is("2 to the left: 1 is 6 away", x.knocked(2, false), 4);
        is("3 to the left: all below it, not the one at its place", x.knocked(3, false), 15);
        is("4 to the left", x.knocked(4, false), 16);
        is("3 to the right", x.knocked(3, true), 8);
        x.house(5, 1, 22);
        is("2 to the right: 5, by it 3 and 4", x.knocked(2, true), 4 + 32 + 8 + 16);
        for (int i : new int[] {-1, 6, LOW, HIGH}) {
            is("knocked(" + i + ")", x.knocked(i, true), -1);
        }
        x.hours(3);
        is("fallen ones", x.knocked(0, true), -1);
        x.house(0, 1, 10);
        x.house(2, 1, 19);
        is("a fallen one is not knocked over, and knocks none", x.knocked(0, true), 1);
        StrongMen z = new StrongMen();
        is("not told", z.knocked(0, false), -1);
    }

    private static void fewest() {
        StrongMen x = new StrongMen();
        is("none stands", x.fewest(0), 0);
        is("none stands", x.fewest(1), 0);
        x.house(3, 1, 50);
        is("one", x.fewest(0) * 100 + x.fewest(1), 108);
        x.house(1, 1, 53);
        is("two near each other: the least bits", x.fewest(0) * 100 + x.fewest(1), 102);
        x.house(0, 1, 57);
        is("the third is 4 from the second", x.fewest(0) * 100 + x.fewest(1), 203);
        x.house(1, 2, 53);
        is("5 away is no more than 6", x.fewest(0) * 100 + x.fewest(1), 108);
        x.house(5, 9, 90);
        is("two that are far from each other", x.fewest(0) * 100 + x.fewest(1), 240);
        x.house(5, 9, 84);
        is("the first is 27 away: both to the left", x.fewest(0) * 100 + x.fewest(1), 234);
        x.house(5, 9, 77);
        is("the last is 27 away", x.fewest(0) * 100 + x.fewest(1), 132);
        x.house(5, 1, 0);
        x.house(4, 1, 3);
        x.house(0, 1, 6);
        x.house(1, 1, 50);
        x.house(2, 1, 47);
        x.house(3, 1, 44);
        is("three to the right, three to the left", x.fewest(0) * 100 + x.fewest(1), 203);
        x.house(4, 2, 3);
        x.house(0, 1, 9);
        x.house(2, 2, 47);
        x.house(1, 1, 53);
        is("the ends do it no more", x.fewest(0) * 100 + x.fewest(1), 200 + 32 + 8);
        for (int what : new int[] {-1, 2, LOW, HIGH}) {
            is("fewest(" + what + ")", x.fewest(what), -1);
        }
        x.hours(3);
        is("all have fallen", x.fewest(0) * 100 + x.fewest(1), 0);
    }

    private static void strike() {
        StrongMen x = oneHouse();
        x.house(1, 1, 20);
        is("fewer are told", x.strike(1, 0), -2);
        x.man(2, 9);
        x.man(4, 9);
        is("one of two", x.strike(1, 0), 0);
        is("the least bits", x.strike(1, 1), 4);
        is("fewer are told", x.strike(3, 0), -2);
        is("fewer are told", x.strike(3, 1), -2);
        Due.roster(x, 0, 0, "ce");
        Due.roster(x, 0, 1, "eee.");
        Due.roster(x, 1, 0, "c");
        Due.roster(x, 2, 0, "p");
        is("c holds one each hour, e 24 less those with 3 of 4 of even hours and nothing", x.strike(1, 0), 24);
        is("e is missing in none: odd hours and 0, 1, 2 of 4", x.strike(1, 1), 4);
        is("two", x.strike(2, 0), 48);
        is("both", x.strike(2, 1), 20);
        x.man(15, 9);
        is("p stands in no told house", x.strike(3, 0), 48);
        is("the three", x.strike(3, 1), 4 + 16 + 32768);
        Due.roster(x, 0, 1, "ee..");
        Due.roster(x, 0, 0, "c");
        is("e alone 12", x.strike(2, 0), 36);
        Due.roster(x, 1, 1, "p");
        is("p as many as c: the least bits", x.strike(1, 1), 4);
        is("c and p", x.strike(2, 1), 4 + 32768);
        for (int[] w : new int[][] {{0, 0}, {4, 0}, {-1, 0}, {1, -1}, {1, 2}, {LOW, 0}, {HIGH, 0}, {1, HIGH}}) {
            is("strike(" + w[0] + ", " + w[1] + ")", x.strike(w[0], w[1]), -1);
        }
        x.hours(240);
        is("all have fallen", x.count(3), 3);
        is("nobody is missed", x.strike(1, 0), 0);
        is("the least bits", x.strike(2, 1), 20);
    }

    private static void bricks() {
        StrongMen x = new StrongMen();
        long[] rows = {0, 1, 1, 1, 2, 2, 3, 4, 5, 7, 9, 12, 16, 21, 28, 37};
        for (int wide = 1; wide <= 16; wide++) {
            is("bricks(" + wide + ", 1)", x.bricks(wide, 1), rows[wide - 1]);
        }
        is("bricks(9, 3)", x.bricks(9, 3), 8);
        is("bricks(2, 6): no seams", x.bricks(2, 6), 1);
        is("bricks(3, 6): no seams", x.bricks(3, 6), 1);
        is("bricks(4, 2): the seams meet", x.bricks(4, 2), 0);
        is("bricks(5, 6): in turn", x.bricks(5, 6), 2);
        is("bricks(1, 6)", x.bricks(1, 6), 0);
        int[][] wrong = {{0, 1}, {17, 1}, {1, 0}, {1, 7}, {-1, 1}, {1, -1}, {LOW, 1}, {HIGH, 1}, {1, LOW}, {1, HIGH}};
        for (int[] w : wrong) {
            is("bricks(" + w[0] + ", " + w[1] + ")", x.bricks(w[0], w[1]), -1);
        }
    }

    private static void bread() {
        StrongMen x = new StrongMen();
        is("4, 0, 2", Due.bread(x, 4, 0, 2), 2);
        bytesOn(x, "bread", 0);
        is("0, 0, 7", Due.bread(x, 0, 0, 7), 8);
        is("one house", Due.bread(x, 255), 0);
        is("none has any", Due.bread(x, 0, 0, 0), 0);
        is("1, 1, 0 is right", Due.bread(x, 1, 1, 0), 0);
        is("0, 1, 1 is not", Due.bread(x, 0, 1, 1), 2);
        is("255 to the last of 12", Due.bread(x, 0, 0, 0, 0, 0, 0, 0, 0, 0, 0, 0, 255),
            22 + 44 + 66 + 87 + 108 + 129 + 150 + 171 + 192 + 213 + 234);
        is("without a tape", x.bread(1), -1);
        Due.feed(x, 1, 2);
        for (int n : new int[] {0, -1, 13, LOW, HIGH}) {
            is("bread(" + n + ")", x.bread(n), -1);
        }
        bytesOn(x, "bread refused", 20);
        is("12 of 20: one loaf goes from the second to the third", x.bread(12), 1);
        bytesOn(x, "bread", 0);
    }

    private static void beams() {
        StrongMen x = new StrongMen();
        is("1, 1, 1", Due.beams(x, 1, 1, 1), 5);
        bytesOn(x, "beams", 0);
        is("one piece", Due.beams(x, 99), 0);
        is("1, 9, 1", Due.beams(x, 1, 9, 1), 21);
        is("in their row", Due.beams(x, 1, 99, 1, 99), 200 + 100 + 100);
        is("eight of 1", Due.beams(x, 1, 1, 1, 1, 1, 1, 1, 1), 24);
        is("eight of 99", Due.beams(x, 99, 99, 99, 99, 99, 99, 99, 99), 24 * 99);
        is("1 to 8", Due.beams(x, 1, 2, 3, 4, 5, 6, 7, 8), 102);
        is("a piece 0", Due.beams(x, 1, 0), -2);
        bytesOn(x, "beams of a piece 0", 0);
        is("a piece of 100", Due.beams(x, 100), -2);
        is("a piece of 255", Due.beams(x, 1, 1, 1, 1, 1, 1, 1, 255), -2);
        is("without a tape", x.beams(1), -1);
        Due.feed(x, 1, 2);
        for (int n : new int[] {0, -1, 9, LOW, HIGH}) {
            is("beams(" + n + ")", x.beams(n), -1);
        }
        bytesOn(x, "beams refused", 20);
    }

    private static void relieved() {
        StrongMen x = oneHouse();
        x.man(0, 9);
        x.man(1, 9);
        Due.roster(x, 0, 1, "3ab.2c");
        is("changes: a b nobody, c is nobody too", x.relieved(0, 1, 0), 3 * 3);
        is("hours of nobody", x.relieved(0, 1, 1), 9);
        is("the longest", x.relieved(0, 1, 2), 3);
        is("hours of the roster", x.relieved(0, 1, 3), 7);
        x.hours(1);
        is("from hour 1 on: the first of the 24 aside", x.relieved(0, 1, 0), 3 * 3 + 1);
        is("hours of nobody from hour 1 on", x.relieved(0, 1, 1), 9);
        Due.roster(x, 0, 1, "aab");
        is("aab from hour 1 on", x.relieved(0, 1, 0), 16);
        Due.roster(x, 0, 1, "9(5a)3.");
        is("one man has all", x.relieved(0, 1, 0) * 10000 + x.relieved(0, 1, 1) * 100 + x.relieved(0, 1, 2), 24);
        Due.roster(x, 0, 1, "a9(2.)");
        is("he has it once", x.relieved(0, 1, 2), 1);
        Due.roster(x, 0, 1, ".");
        is("nobody", x.relieved(0, 1, 0) * 10000 + x.relieved(0, 1, 1) * 100 + x.relieved(0, 1, 2), 2400);
        is("no roster", x.relieved(0, 0, 1) * 100 + x.relieved(0, 0, 3), 2400);
        int[][] wrong = {{1, 0, 0}, {-1, 0, 0}, {6, 0, 0}, {0, -1, 0}, {0, 4, 0}, {0, 0, -1}, {0, 0, 4}, {LOW, 0, 0},
            {0, HIGH, 0}, {0, 0, LOW}};
        for (int[] w : wrong) {
            is("relieved refused", x.relieved(w[0], w[1], w[2]), -1);
        }
    }

    private static void heaviest() {
        StrongMen x = new StrongMen();
        is("no house", x.heaviest(0), -2);
        is("no house", x.heaviest(2), -2);
        is("no house, no such what", x.heaviest(3), -1);
        x.house(4, 2, 0);
        x.house(2, 2, 0);
        StrongMen z = oneHouse();
        is("house 0", z.heaviest(0), 0);
        is("corner 0", z.heaviest(1), 0);
        is("its load", z.heaviest(2), 640);
        is("the lowest house", x.heaviest(0), 2);
        is("the lowest corner", x.heaviest(1), 0);
        is("the load", x.heaviest(2), 1280);
        x.thing(0, 4, 8, 8, 1);
        is("the house", x.heaviest(0), 4);
        is("the corner", x.heaviest(1), 3);
        is("the load", x.heaviest(2), 1344);
        x.hours(3);
        is("fallen ones, too", x.heaviest(0), 4);
        for (int what : new int[] {-1, 3, LOW, HIGH}) {
            is("heaviest(" + what + ")", x.heaviest(what), -1);
        }
    }

    private static void seed() {
        StrongMen x = heldHouse();
        for (int wrong : new int[] {-1, 65536, LOW, HIGH}) {
            is("seed(" + wrong + ")", x.seed(wrong), false);
        }
        is("X", x.count(8), 1);
        is("seed(0)", x.seed(0), true);
        is("X", x.count(8), 0);
        is("seed(65535)", x.seed(65535), true);
        is("X", x.count(8), 65535);
        x.hours(1);
        is("X is drawn on", x.count(8), drawn(drawn(drawn(drawn(65535)))));
    }

    private static void keepAndUndo() {
        StrongMen x = heldHouse();
        x.thing(0, 0, 1, 1, 10);
        is("none was kept", x.undo(), false);
        Due.law(x, "t3(1=1);d5(1=1)");
        x.hours(49);
        int sag = x.houseIs(0, 2);
        int seed = x.count(8);
        int tired = x.manIs(1, 1);
        is("keep", x.keep(), 2);
        for (int round = 0; round < 2; round++) {
            x.hours(60);
            x.house(0, 9, 99);
            x.house(1, 3, 3);
            x.thing(0, 1, 2, 2, 20);
            x.thing(1, 1, 2, 2, 20);
            x.man(1, 77);
            x.man(9, 9);
            x.seed(5);
            Due.law(x, "t4(1=1)");
            Due.roster(x, 0, 0, "bb");
            Due.feed(x, "abc");
            is("undo", x.undo(), true);
            is("the hour", x.count(0), 1);
            is("the day", x.count(1), 2);
            is("houses", x.count(2), 1);
            is("storeys", x.houseIs(0, 0), 1);
            is("place", x.houseIs(0, 1), 10);
            is("sag", x.houseIs(0, 2), sag);
            is("men", x.count(4), 15);
            is("strength", x.manIs(1, 0), 20);
            is("tired", x.manIs(1, 1), tired);
            is("things", x.count(5), 1);
            is("house of the thing", x.thingIs(0, 0), 0);
            is("weight of the thing", x.thingIs(0, 3), 10);
            is("X", x.count(8), seed);
            is("the law is not undone", x.count(6), 1);
            is("rosters are not undone", x.relieved(0, 0, 3), 2);
            bytesOn(x, "undo", 20);
            x.check(0);
        }
        x.hours(24);
        is("kept anew", x.keep(), 3);
        x.hours(24);
        x.undo();
        is("as kept last", x.count(1), 3);
    }

    private static void check() {
        StrongMen x = heldHouse();
        is("check(0) without a tape", x.check(0), -1);
        is("check(1) without a tape", x.check(1), -2);
        Due.law(x, "tm+1(1=1)");
        x.hours(2);
        is("right", Due.check(x, 2, 4, 6, 8, 0, 0), -1);
        bytesOn(x, "check", 0);
        is("right, in part", Due.check(x, 2, 4), -1);
        is("the first that is not so", Due.check(x, 2, 5, 6, 9), 1);
        is("the very first", Due.check(x, 3, 5, 6, 8), 0);
        is("not told: 0", Due.check(x, 2, 4, 6, 8, 1), 4);
        is("all", Due.check(x, 2, 4, 6, 8, 0, 0, 0, 0, 0, 0, 0, 0, 0, 0, 0, 0), -1);
        is("the last", Due.check(x, 2, 4, 6, 8, 0, 0, 0, 0, 0, 0, 0, 0, 0, 0, 0, 200), 15);
        Due.feed(x, 9, 9);
        for (int n : new int[] {-1, 17, 21, LOW, HIGH}) {
            is("check(" + n + ")", x.check(n), -2);
        }
        bytesOn(x, "check refused", 20);
        is("check(0)", x.check(0), -1);
        bytesOn(x, "check(0)", 0);
    }

    private static void count() {
        StrongMen x = new StrongMen();
        x.house(0, 1, 1);
        x.house(5, 1, 1);
        x.man(0, 1);
        x.man(15, 1);
        x.thing(1, 5, 1, 1, 1);
        Due.law(x, "x(1=1);x(1=2)");
        x.hours(50);
        x.house(0, 1, 1);
        Due.feed(x, "abc");
        int[] want = {2, 2, 33, 32, 0x8001, 1, 2, 20, 1};
        for (int what = 0; what < want.length; what++) {
            is("count(" + what + ")", x.count(what), want[what]);
        }
        for (int what : new int[] {-1, 9, LOW, HIGH}) {
            is("count(" + what + ")", x.count(what), -1);
        }
    }
}
