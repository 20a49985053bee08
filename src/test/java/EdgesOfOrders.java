/** Boundary sentences of promise 8: orders, their faults, and what they do. */
final class EdgesOfOrders {
    private static final String MEN = "abcdefghijklmnop";
    private static final String DIGITS = "0123456789";

    private EdgesOfOrders() { }

    private static void is(String call, long got, long want) {
        Edges.is(call, got, want);
    }

    /** All houses, all men tired 50, all things in house 0 at (1, 2). */
    private static StrongMen full() {
        StrongMen x = new StrongMen();
        for (int i = 0; i < 6; i++) {
            x.house(i, 1, i);
        }
        for (int t = 0; t < 24; t++) {
            x.thing(t, 0, 1, 2, t + 1);
        }
        for (int m = 0; m < 16; m++) {
            x.man(m, 50);
            Due.roster(x, m / 4, m % 4, String.valueOf((char) ('a' + m)));
        }
        Due.law(x, "t50(1=1)");
        x.hours(1);
        return x;
    }

    private static void orders(StrongMen x, String text, int want) {
        is("orders " + text, Due.orders(x, text), want);
        is("the tape behind " + text, x.count(7), 0);
    }

    // ---- the call ----

    static void promise08_nIs1To120() {
        for (int n : new int[] {0, -1, 21, 121, Edges.LOW, Edges.HIGH}) {
            Edges.refused("orders(" + n + ")", x -> x.orders(n), -1);
        }
        StrongMen x = full();
        String longest = Edges.times(20, "00>34", ";");
        is("twenty of the longest lines", longest.length(), 119);
        orders(x, longest, 20);
        orders(x, longest + ";", -1120);
        orders(x, longest + "0", -1119);
        Due.feed(x, longest + ";;");
        is("121 bytes", x.orders(121), -1);
        is("the tape stays", x.count(7), 140);
        is("119 of them", x.orders(119), 20);
        is("the tape is empty", x.count(7), 0);
        Due.feed(x, "a5");
        is("1 byte", x.orders(1), -1001);
    }

    static void promise08_theTapeHasNotSoMany() {
        Edges.refused("21 of 20", x -> x.orders(Edges.ON_TAPE + 1), -1);
        Edges.refused("120 of 20", x -> x.orders(120), -1);
        Edges.refusedWithoutTape("1 of none", x -> x.orders(1), -1);
        StrongMen x = full();
        Due.feed(x, "a1;b1;c1;d1;00>11;e1");
        is("20 of 20", x.orders(20), 6);
    }

    static void promise08_whatIsBehindNIsNotRead() {
        StrongMen x = full();
        Due.feed(x, "a123");
        is("behind n is a third digit", x.orders(3), 1);
        is("tired", x.manIs(0, 1), 38);
        Due.feed(x, "0>34");
        is("behind n is 4", x.orders(3), -1003);
        Due.feed(x, "0!z");
        is("behind n is z", x.orders(2), 1);
    }

    static void promise08_howManyLines() {
        for (int lines = 1; lines <= 20; lines++) {
            orders(full(), Edges.times(lines, "p1", ";"), lines);
        }
    }

    // ---- faults ----

    private static void next(StrongMen x, String begun, String can, boolean canEnd) {
        if (!begun.isEmpty() && !canEnd) {
            orders(x, begun, -1000 - begun.length());
        }
        for (int sign = 0; sign < 256; sign++) {
            if (can.indexOf(sign) < 0) {
                orders(x, begun + (char) sign, -1000 - begun.length());
            }
        }
    }

    static void promise08_fault1WhatCantStandThere() {
        StrongMen x = full();
        next(x, "", DIGITS + MEN, false);
        next(x, "0", DIGITS + ">@!", false);
        next(x, "23", DIGITS + ">@!", false);
        next(x, "0>", "012345678", false);
        next(x, "0>0", "012345678", false);
        next(x, "0>88", ";", true);
        next(x, "0@", "012345", false);
        next(x, "0@5", ";", true);
        next(x, "0!", ";", true);
        next(x, "a", DIGITS, false);
        next(x, "a1", DIGITS + ";", true);
        next(x, "p12", DIGITS + ";", true);
        next(x, "a0;", DIGITS + MEN, false);
        next(x, "0!;1", DIGITS + ">@!", false);
        is("nothing was done", x.count(5) * 100 + x.manIs(0, 1), 2450);
    }

    static void promise08_fault1TheEndToo() {
        StrongMen x = full();
        String text = "0>34;a5;12@5;7!";
        for (int n = 1; n < text.length(); n++) {
            boolean lineEnds = n == 4 || n == 7 || n == 12;
            if (!lineEnds) {
                orders(x, text.substring(0, n), -1000 - n);
            }
        }
        orders(x, text, 4);
    }

    static void promise08_signsThatStand() {
        for (int k = 0; k <= 8; k++) {
            StrongMen x = full();
            orders(x, "0>" + k + (8 - k), 1);
            is("x", x.thingIs(0, 1), k);
            is("y", x.thingIs(0, 2), 8 - k);
        }
        for (int i = 0; i <= 5; i++) {
            StrongMen x = full();
            orders(x, "0@" + i, 1);
            is("house", x.thingIs(0, 0), i);
        }
        for (int t = 0; t <= 23; t++) {
            StrongMen x = full();
            orders(x, t + "!", 1);
            is("thing " + t + " is out", x.thingIs(t, 0), -1);
            is("one of them", x.count(5), 23);
        }
        for (int m = 0; m < 16; m++) {
            StrongMen x = full();
            orders(x, (char) ('a' + m) + "7", 1);
            is("man " + m, x.manIs(m, 1), 43);
            is("another", x.manIs(15 - m, 1), 50);
        }
    }

    static void promise08_numbersHaveOneOrTwoDigits() {
        StrongMen x = full();
        orders(x, "a0", 1);
        orders(x, "a00", 1);
        is("not less tired", x.manIs(0, 1), 50);
        orders(x, "a09", 1);
        is("9 less", x.manIs(0, 1), 41);
        orders(x, "07>00", 1);
        is("thing 7", x.thingIs(7, 1), 0);
        orders(x, "00>77;0@1", 2);
        is("thing 0", x.thingIs(0, 0) * 100 + x.thingIs(0, 1) * 10 + x.thingIs(0, 2), 177);
    }

    static void promise08_fault2AThirdDigit() {
        StrongMen x = full();
        orders(x, "123!", -2002);
        orders(x, "000!", -2002);
        orders(x, "999", -2002);
        orders(x, "a123", -2003);
        orders(x, "a000", -2003);
        orders(x, "a1;012>00", -2005);
        orders(x, "a99", 1);
        orders(x, "12", -1002);
    }

    static void promise08_fault4A21stLine() {
        String twenty = Edges.times(20, "a1", ";");
        for (char sign : (DIGITS + MEN).toCharArray()) {
            StrongMen x = full();
            orders(x, twenty + ";" + sign, -4060);
            is("nothing is done", x.manIs(0, 1), 50);
        }
        StrongMen x = full();
        orders(x, twenty + ";a1", -4060);
        orders(x, twenty + ";", -1060);
        orders(x, twenty + ";q", -1060);
        orders(x, twenty + ";;", -1060);
        orders(x, twenty + ";>", -1060);
        orders(x, twenty + "a", -1059);
        is("nothing is done", x.manIs(0, 1), 50);
        orders(x, twenty, 20);
        is("all are done", x.manIs(0, 1), 30);
    }

    static void promise08_fault7IsBehind4() {
        StrongMen x = new StrongMen();
        x.man(0, 1);
        String twenty = Edges.times(20, "a1", ";");
        orders(x, twenty + ";b1", -4060);
        orders(x, twenty + ";9!", -4060);
        orders(x, twenty + ";99", -4060);
        orders(x, Edges.times(19, "a1", ";") + ";b1", -7057);
    }

    static void promise08_fault7AThing() {
        StrongMen x = Edges.street();
        x.check(0);
        orders(x, "1!", -7000);
        orders(x, "22!", -7000);
        orders(x, "24!", -7000);
        orders(x, "99!", -7000);
        orders(x, "0@0;8>00", -7004);
        orders(x, "23>00", 1);
        orders(x, "7>00", 1);
    }

    static void promise08_fault7OfAThingIsAskedWhenItsNumberEnds() {
        StrongMen x = Edges.street();
        x.check(0);
        orders(x, "1", -7000);
        orders(x, "1*", -7000);
        orders(x, "1;", -7000);
        orders(x, "1>9", -7000);
        orders(x, "1@1", -7000);
        orders(x, "10", -7000);
        orders(x, "100", -2002);
        orders(x, "07", -1002);
        orders(x, "2", -7000);
        orders(x, "23", -1002);
    }

    static void promise08_fault7AHouse() {
        StrongMen x = Edges.street();
        x.check(0);
        for (int i : new int[] {1, 3, 4}) {
            orders(x, "0@" + i, -7002);
            orders(x, "0@" + i + "*", -7002);
            orders(x, "00@" + i + ";", -7003);
        }
        orders(x, "0@6", -1002);
        orders(x, "0@2", 1);
        is("a fallen house is told", x.thingIs(0, 0), 2);
        orders(x, "0@5", 1);
    }

    static void promise08_fault7AMan() {
        StrongMen x = Edges.street();
        x.check(0);
        for (char man : "defghijklmno".toCharArray()) {
            orders(x, man + "1", -7000);
            orders(x, "" + man, -7000);
            orders(x, man + "*", -7000);
            orders(x, man + "123", -7000);
            orders(x, "a1;" + man + "1", -7003);
        }
        orders(x, "a1;b1;c1;p1", 4);
    }

    static void promise08_fault7OfWhatIsTakenOutAhead() {
        StrongMen x = full();
        orders(x, "0!;0!", -7003);
        orders(x, "0!;00>11", -7003);
        orders(x, "0!;1!;0@1", -7006);
        orders(x, "0!;0", -7003);
        is("nothing is done", x.count(5), 24);
        orders(x, "0>11;0@1;0!", 3);
        is("it is out", x.count(5), 23);
        orders(x, "0!", -7000);
    }

    static void promise08_theFirstFaultFromTheLeft() {
        StrongMen x = Edges.street();
        x.check(0);
        orders(x, "1!;z", -7000);
        orders(x, "a1;z;1!", -1003);
        orders(x, "a123;1!", -2003);
        orders(x, "0>9;1!", -1002);
        orders(x, "0 >11", -1001);
        orders(x, " 0>11", -1000);
    }

    static void promise08_nothingIsDoneByOrdersWithAFault() {
        Edges.faulty("fault 1", x -> Due.orders(x, "a9;b9;0>77;7@0;23!;"), -1019);
        Edges.faulty("fault 2", x -> Due.orders(x, "a9;b9;0>77;7@0;23!;a100"), -2022);
        Edges.faulty("fault 4", x -> Due.orders(x, "23!;" + Edges.times(20, "a9", ";")), -4061);
        Edges.faulty("fault 7, a thing", x -> Due.orders(x, "a9;b9;0>77;7@0;23!;23!"), -7019);
        Edges.faulty("fault 7, a house", x -> Due.orders(x, "a9;b9;0>77;23!;7@1"), -7017);
        Edges.faulty("fault 7, a man", x -> Due.orders(x, "0@2;7>11;p5;d1"), -7012);
    }

    // ---- what they do ----

    static void promise08_tiredIs0AtLeast() {
        StrongMen x = full();
        orders(x, "a49;b50;c51;d99", 4);
        int[] due = {1, 0, 0, 0, 50};
        for (int m = 0; m < due.length; m++) {
            is("man " + m, x.manIs(m, 1), due[m]);
        }
        orders(x, "a1;a1;b1", 3);
        is("0 at least", x.manIs(0, 1) + x.manIs(1, 1), 0);
    }

    static void promise08_linesAreDoneInTheirOrder() {
        StrongMen x = full();
        orders(x, "5>88;5>07;5@3;5@4", 4);
        is("the last spot", x.thingIs(5, 1) * 10 + x.thingIs(5, 2), 7);
        is("the last house", x.thingIs(5, 0), 4);
        is("its weight stays", x.thingIs(5, 3), 6);
    }

    static void promise08_toAHouseTheSameSpot() {
        StrongMen x = full();
        orders(x, "23@5", 1);
        is("house", x.thingIs(23, 0), 5);
        is("spot", x.thingIs(23, 1) * 10 + x.thingIs(23, 2), 12);
        is("load of the new house", x.load(5, 3), 640 + 24 * 2);
        is("things of the old one", x.houseIs(0, 3), 23);
    }

    static void promise08_whatIsTakenOutIsNotTold() {
        StrongMen x = full();
        orders(x, "23!;0!", 2);
        for (int what = 0; what < 4; what++) {
            is("thingIs", x.thingIs(23, what), -1);
        }
        is("weight of the house", x.houseIs(0, 5), 300 - 24 - 1);
        is("it can be told again", Edges.yes(x.thing(23, 1, 1, 1, 1)), 1);
        is("things", x.count(5), 23);
    }
}
