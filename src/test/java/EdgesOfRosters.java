/** Boundary sentences of promise 7: rosters, their faults, and whose hour it is by them. */
final class EdgesOfRosters {
    private static final String MEN = "abcdefghijklmnop";
    private static final String HOURS = MEN + ".23456789";

    private EdgesOfRosters() { }

    private static void is(String call, long got, long want) {
        Edges.is(call, got, want);
    }

    private static void roster(String text, int want) {
        StrongMen x = new StrongMen();
        is("roster " + text, Due.roster(x, 0, 0, text), want);
        is("the tape behind " + text, x.count(7), 0);
    }

    // ---- the call ----

    static void promise07_everyCornerOfEveryHouse() {
        StrongMen x = new StrongMen();
        for (int i = 0; i < 6; i++) {
            for (int c = 0; c < 4; c++) {
                is("roster", Due.roster(x, i, c, "a".repeat(1 + 4 * i + c)), 1 + 4 * i + c);
            }
        }
        for (int i = 0; i < 6; i++) {
            x.house(i, 1, 0);
            for (int c = 0; c < 4; c++) {
                is("hours of " + i + ", " + c, x.relieved(i, c, 3), 1 + 4 * i + c);
            }
        }
        for (int i : new int[] {-1, 6, Edges.LOW, Edges.HIGH}) {
            Edges.refused("roster(" + i + ", 0, 1)", y -> y.roster(i, 0, 1), -1);
        }
        for (int c : new int[] {-1, 4, Edges.LOW, Edges.HIGH}) {
            Edges.refused("roster(0, " + c + ", 1)", y -> y.roster(0, c, 1), -1);
            Edges.refused("roster(5, " + c + ", 1)", y -> y.roster(5, c, 1), -1);
        }
    }

    static void promise07_theHouseNeedNotBeTold() {
        StrongMen x = new StrongMen();
        x.man(0, 1);
        is("roster", Due.roster(x, 4, 2, "a"), 1);
        is("duty of a house that is not told", x.duty(4, 2), -1);
        x.house(4, 1, 0);
        is("duty of it when it is told", x.duty(4, 2), 0);
    }

    static void promise07_nIs1To40() {
        for (int n : new int[] {0, -1, 21, 41, Edges.LOW, Edges.HIGH}) {
            Edges.refused("roster(0, 0, " + n + ")", x -> x.roster(0, 0, n), -1);
        }
        StrongMen x = new StrongMen();
        x.house(0, 1, 0);
        Due.feed(x, "a".repeat(60));
        is("41 of 60", x.roster(0, 0, 41), -1);
        is("the tape stays", x.count(7), 60);
        is("no roster", x.relieved(0, 0, 3), 0);
        is("40 of 60", x.roster(0, 0, 40), 40);
        is("the tape is empty", x.count(7), 0);
        Due.feed(x, "a".repeat(60));
        is("1 of 60", x.roster(0, 0, 1), 1);
        is("the tape is empty", x.count(7), 0);
    }

    static void promise07_theTapeHasNotSoMany() {
        Edges.refused("21 of 20", x -> x.roster(0, 0, Edges.ON_TAPE + 1), -1);
        Edges.refusedWithoutTape("1 of none", x -> x.roster(0, 0, 1), -1);
        StrongMen x = new StrongMen();
        Due.feed(x, "a".repeat(20));
        is("20 of 20", x.roster(0, 0, 20), 20);
    }

    static void promise07_whatIsBehindNIsNotRead() {
        StrongMen x = new StrongMen();
        Due.feed(x, "2(a)");
        is("behind n is )", x.roster(0, 0, 3), -1003);
        Due.feed(x, "2a");
        is("behind n is a", x.roster(0, 0, 1), -1001);
        Due.feed(x, "a)");
        is("behind n is )", x.roster(0, 0, 1), 1);
    }

    static void promise07_inPlaceOfTheOneBefore() {
        StrongMen x = new StrongMen();
        x.house(1, 1, 0);
        x.man(0, 1);
        x.man(1, 1);
        Due.roster(x, 1, 1, "9(5b)");
        Due.roster(x, 1, 2, "b");
        is("a shorter one", Due.roster(x, 1, 1, "a."), 2);
        is("its hours", x.relieved(1, 1, 3), 2);
        is("a has it", x.duty(1, 1), 0);
        is("half of the day nobody", x.relieved(1, 1, 1), 12);
        is("the other corner", x.duty(1, 2), 1);
        is("a longer one", Due.roster(x, 1, 1, "8(6b)"), 48);
        is("nobody is missing", x.relieved(1, 1, 1), 0);
    }

    static void promise07_aFaultLeavesTheOneBefore() {
        Edges.faulty("b)", x -> Due.roster(x, 0, 0, "b)"), -1001);
        Edges.faulty("bb(((", x -> Due.roster(x, 0, 0, "bb((("), -5004);
        Edges.faulty("bb7(7b)", x -> Due.roster(x, 0, 0, "bb7(7b)"), -6002);
        Edges.faulty("b2", x -> Due.roster(x, 5, 1, "b2"), -1002);
    }

    // ---- faults ----

    /** Every byte behind the beginning of a roster, in which the end can or can't stand. */
    private static void next(String begun, String can, int endsWith) {
        if (!begun.isEmpty()) {
            roster(begun, endsWith > 0 ? endsWith : -1000 - begun.length());
        }
        for (int sign = 0; sign < 256; sign++) {
            if (can.indexOf(sign) < 0) {
                roster(begun + (char) sign, -1000 - begun.length());
            }
        }
    }

    static void promise07_fault1WhatCantStandThere() {
        next("", HOURS + "(", 0);
        next("a", HOURS + "(", 1);
        next("p", HOURS + "(", 1);
        next(".", HOURS + "(", 1);
        next("2", MEN + ".(", 0);
        next("9", MEN + ".(", 0);
        next("a2", MEN + ".(", 0);
        next("(", HOURS + "(", 0);
        next("2(", HOURS + "(", 0);
        next("(a", HOURS + "()", 0);
        next("(3", MEN + ".(", 0);
        next("((", HOURS + "(", 0);
        next("((a", HOURS + "()", 0);
        next("((a)", HOURS + "()", 0);
        next("(a)", HOURS + "(", 1);
        next("((a))", HOURS + "(", 1);
        next("2(2(a)b)", HOURS + "(", 6);
    }

    static void promise07_signsThatStand() {
        for (char man : MEN.toCharArray()) {
            roster("" + man, 1);
        }
        roster(".", 1);
        for (int digit = 2; digit <= 9; digit++) {
            roster(digit + "a", digit);
            roster(digit + ".", digit);
            roster(digit + "(a)", digit);
            roster(digit + "(ab)", 2 * digit);
        }
        roster("0a", -1000);
        roster("1a", -1000);
        roster("a0a", -1001);
        roster("10a", -1000);
        roster("22a", -1001);
        roster("` ", -1000);
        roster("q", -1000);
    }

    static void promise07_fault1TheEndToo() {
        String text = "2(a3(b.)c)";
        for (int n = 1; n < text.length(); n++) {
            roster(text.substring(0, n), -1000 - n);
        }
        roster(text, 16);
    }

    static void promise07_oneHourAtLeastInBrackets() {
        roster("()", -1001);
        roster("a()", -1002);
        roster("2()", -1002);
        roster("(a())", -1003);
        roster("(())", -1002);
        roster("(2)", -1002);
        roster("(.)", 1);
    }

    static void promise07_fault5AThirdBracket() {
        roster("((a))", 1);
        roster("(((a)))", -5002);
        roster("(((", -5002);
        roster("((2(a)))", -5003);
        roster("2(2(2(a)))", -5005);
        roster("(a(b(c)))", -5004);
        roster("((a)(b)(c))", 3);
        roster("((a)((b)))", -5005);
        roster("(a)(b)((c))", 3);
        roster("(a)(b)(((c)))", -5008);
    }

    static void promise07_fault6MoreThan48() {
        roster("9a9a9a9a9a3a", 48);
        roster("9a9a9a9a9a4a", -6010);
        roster("9a9a9a9a9aaaa", 48);
        roster("9a9a9a9a9aaaaa", -6013);
        roster("9a9a9a9a9a3aa", -6012);
        roster("9a9a9a9a9a3a.", -6012);
        roster("9a9a9a9a9a3a9a", -6012);
        roster("9.9.9.9.9.9.", -6010);
        roster("8(6a)", 48);
        roster("7(7a)", -6000);
        roster("8(6a)a", -6005);
        roster("6(8a)", 48);
        roster("a6(8a)", -6001);
        roster("9(9a)", -6000);
    }

    static void promise07_fault6IsAskedWhenItEnds() {
        roster("7(7a", -1004);
        roster("7(7a*", -1004);
        roster("7(7a(", -1005);
        roster("7(7a(((", -5005);
        roster("9(9(9a", -1006);
        roster("9a9a9a9a9a9", -1011);
        roster("9a9a9a9a9a9*", -1011);
        roster("9a9a9a9a9a9(a)", -6010);
        roster("9a9a9a9a9a9(a", -1013);
    }

    static void promise07_fault6OfAnInnerOneFirst() {
        roster("9(9(9a))", -6002);
        roster("2(9(6a))", -6002);
        roster("2(8(6a))", -6000);
        roster("(8(6a)a)", -6006);
        roster("(8(6a)2a)", -6006);
        roster("2(9a9a6a)", 48);
        roster("2(9a9a7a)", -6000);
        roster("9a9a9a9a9a(4a)", -6011);
        roster("9a9a9a9a9a(3a)", 48);
        roster("9a9a9a9a9a(2a2(a))", -6013);
        roster("9a9a9a9a9a(a2(a))", 48);
        roster("9a9a9a9a9a2(a2(a))", -6010);
        roster("9a9a9a9a3(9a)", -6008);
    }

    static void promise07_fortyBytesCanBeManyHours() {
        roster("a".repeat(38) + "9a", 47);
        roster("a".repeat(35) + "2(2a)", 39);
        roster("a".repeat(38) + "9", -1039);
        roster("a".repeat(39) + "9", -1040);
        roster("a".repeat(33) + "3(5a)aa", -6038);
    }

    // ---- whose hour it is ----

    private static void spelt(String text, String due) {
        StrongMen x = new StrongMen();
        x.house(0, 1, 0);
        for (int m = 0; m < 15; m++) {
            x.man(m, 1);
        }
        is("roster " + text, Due.roster(x, 0, 3, text), due.length());
        for (int hour = 0; hour < 2 * due.length() + 2; hour++) {
            char sign = due.charAt(hour % due.length());
            is("hour " + hour + " of " + text, x.duty(0, 3), sign == '.' || sign == 'p' ? -2 : sign - 'a');
            x.hours(1);
        }
    }

    static void promise07_soManyTimes() {
        spelt("a", "a");
        spelt("2ab", "aab");
        spelt("9.a", ".........a");
        spelt("2(ab)c", "ababc");
        spelt("2(a2(b.))c", "ab.b.ab.b.c");
        spelt("a(b)(c)", "abc");
        spelt("3(2(ab)o)2p", "ababoababoababopp");
        spelt("(2a(3b))", "aabbb");
    }

    static void promise07_overAndOver() {
        spelt("9a9b9c9d9efgh", "a".repeat(9) + "b".repeat(9) + "c".repeat(9) + "d".repeat(9) + "e".repeat(9) + "fgh");
        spelt("9a9b5cd", "a".repeat(9) + "b".repeat(9) + "c".repeat(5) + "d");
        spelt("9a9b5c2d", "a".repeat(9) + "b".repeat(9) + "c".repeat(5) + "dd");
    }

    static void promise07_fortyEightHoursAtEveryCorner() {
        StrongMen x = new StrongMen();
        for (int m = 0; m < 16; m++) {
            x.man(m, 1);
        }
        for (int corner = 0; corner < 24; corner++) {
            x.house(corner / 4, 1, 0);
            char first = (char) ('a' + corner % 16);
            char last = (char) ('a' + (corner + 1) % 16);
            String text = "" + first + "9.9.9.9.9." + "." + last;
            is("hours", Due.roster(x, corner / 4, corner % 4, text), 48);
        }
        x.hours(47);
        for (int corner = 0; corner < 24; corner++) {
            is("hour 47", x.duty(corner / 4, corner % 4), (corner + 1) % 16);
        }
        x.hours(1);
        for (int corner = 0; corner < 24; corner++) {
            is("hour 48", x.duty(corner / 4, corner % 4), corner % 16);
        }
        x.hours(1);
        for (int corner = 0; corner < 24; corner++) {
            is("hour 49", x.duty(corner / 4, corner % 4), -2);
        }
    }

    static void promise07_fromHour0OfDay0() {
        StrongMen x = new StrongMen();
        x.house(0, 1, 0);
        x.man(0, 1);
        x.hours(240);
        x.hours(11);
        Due.roster(x, 0, 0, "...a...");
        is("hour 251 is 6 of 7", x.duty(0, 0), -2);
        x.hours(3);
        is("hour 254 is 2 of 7", x.duty(0, 0), -2);
        x.hours(1);
        is("hour 255 is 3 of 7", x.duty(0, 0), 0);
        x.hours(1);
        is("hour 256 is 4 of 7", x.duty(0, 0), -2);
    }

    static void promise07_menThatAreNotToldMayStandInIt() {
        StrongMen x = new StrongMen();
        x.house(0, 1, 0);
        is("roster", Due.roster(x, 0, 0, "p"), 1);
        is("nobody then", x.duty(0, 0), -2);
        is("nobody holds it", x.tried(1, 2), 4);
        x.man(15, 1);
        is("he is told", x.duty(0, 0), 15);
        is("he holds it", x.tried(1, 2), 3);
    }

    static void promise07_noneIsNobody() {
        StrongMen x = new StrongMen();
        x.house(0, 1, 0);
        x.man(0, 1);
        for (int c = 0; c < 4; c++) {
            is("duty", x.duty(0, c), -2);
        }
        is("held by nobody", x.tried(1, 2), 4);
    }
}
