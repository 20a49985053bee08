/** Boundary sentences of promises 32 to 34: kept, undone, checked. */
final class EdgesOfKeeping {
    private EdgesOfKeeping() { }

    private static void is(String call, long got, long want) {
        Edges.is(call, got, want);
    }

    // ---- promise 32 ----

    static void promise32_keepTellsTheDay() {
        StrongMen x = new StrongMen();
        is("day 0", x.keep(), 0);
        x.hours(23);
        is("day 0, hour 23", x.keep(), 0);
        x.hours(1);
        is("day 1", x.keep(), 1);
        x.hours(240);
        is("day 11", x.keep(), 11);
    }

    static void promise32_keepChangesNothingElse() {
        StrongMen x = Edges.street();
        int[] before = new int[9];
        for (int what = 0; what < 9; what++) {
            before[what] = x.count(what);
        }
        is("keep", x.keep(), 0);
        for (int what = 0; what < 9; what++) {
            is("count(" + what + ")", x.count(what), before[what]);
        }
        is("the law on the tape", x.law(15), 2);
    }

    static void promise32_anEmptyStreetCanBeKept() {
        StrongMen x = new StrongMen();
        x.keep();
        for (int i = 0; i < 6; i++) {
            x.house(i, 1, 0);
        }
        for (int t = 0; t < 24; t++) {
            x.thing(t, 0, 0, 0, 1);
        }
        for (int m = 0; m < 16; m++) {
            x.man(m, 1);
        }
        x.hours(30);
        x.seed(7);
        is("undo", Edges.yes(x.undo()), 1);
        for (int what = 0; what < 9; what++) {
            is("count(" + what + ")", x.count(what), what == 8 ? 1 : 0);
        }
        for (int t = 0; t < 24; t++) {
            is("thing " + t, x.thingIs(t, 3), -1);
        }
    }

    static void promise32_asKeptLast() {
        StrongMen x = new StrongMen();
        x.house(0, 1, 0);
        x.keep();
        x.house(0, 2, 0);
        x.keep();
        x.house(0, 3, 0);
        x.undo();
        is("the second", x.houseIs(0, 0), 2);
        x.undo();
        is("the second again", x.houseIs(0, 0), 2);
    }

    // ---- promise 33 ----

    static void promise33_noneWasKept() {
        StrongMen x = Edges.heldHouse();
        Due.law(x, "t1(1=1)");
        x.hours(25);
        Due.feed(x, "abc");
        is("undo", Edges.yes(x.undo()), 0);
        int[] due = {1, 1, 1, 0, 15, 0, 1, 20};
        for (int what = 0; what < due.length; what++) {
            is("count(" + what + ")", x.count(what), due[what]);
        }
        is("tired", x.manIs(0, 1), 25);
        is("again", Edges.yes(x.undo()), 0);
    }

    /** Everything that is kept, each by itself: changed, undone, and as it was. */
    static void promise33_allThatIsKeptIsUndone() {
        Edges.Call[] changes = {x -> Edges.yes(x.house(0, 3, 10)), x -> Edges.yes(x.house(0, 2, 11)),
            x -> Edges.yes(x.house(1, 1, 1)), x -> Edges.yes(x.house(2, 1, 14)), x -> Edges.yes(x.thing(0, 0, 1, 0, 10)),
            x -> Edges.yes(x.thing(0, 0, 0, 1, 10)), x -> Edges.yes(x.thing(0, 0, 0, 0, 11)),
            x -> Edges.yes(x.thing(0, 5, 0, 0, 10)), x -> Edges.yes(x.thing(1, 5, 0, 0, 10)),
            x -> Edges.yes(x.man(0, 51)), x -> Edges.yes(x.man(0, 50)), x -> Edges.yes(x.man(7, 51)),
            x -> Edges.yes(x.seed(12345)), x -> x.hours(1), x -> x.hours(24), x -> x.hours(240)};
        for (int k = 0; k < changes.length; k++) {
            Edges.Call change = changes[k];
            Edges.alike("change " + k + " and undo", x -> {
                x.keep();
                change.on(x);
                return Edges.yes(x.undo());
            }, x -> x.keep());
        }
    }

    private static void tellAll(StrongMen x, int more) {
        for (int i = 0; i < 6; i++) {
            x.house(i, 1 + i + more, 10 * i + more);
        }
        for (int t = 0; t < 24; t++) {
            x.thing(t, t % 5 + more, t % 8 + more, t % 7 + more, t + 1 + more);
        }
        for (int m = 0; m < 16; m++) {
            x.man(m, 50 + m + more);
        }
    }

    static void promise33_everyHouseThingAndMan() {
        StrongMen x = new StrongMen();
        tellAll(x, 0);
        for (int m = 0; m < 16; m++) {
            Due.roster(x, m / 4, m % 4, String.valueOf((char) ('a' + m)));
        }
        Due.law(x, "tm+1(1=1)");
        x.hours(1);
        x.keep();
        tellAll(x, 1);
        x.undo();
        for (int i = 0; i < 6; i++) {
            is("storeys", x.houseIs(i, 0), 1 + i);
            is("place", x.houseIs(i, 1), 10 * i);
            is("sag", x.houseIs(i, 2), i < 4 ? 0 : 4);
        }
        for (int t = 0; t < 24; t++) {
            is("house of " + t, x.thingIs(t, 0), t % 5);
            is("x of " + t, x.thingIs(t, 1), t % 8);
            is("y of " + t, x.thingIs(t, 2), t % 7);
            is("weight of " + t, x.thingIs(t, 3), t + 1);
        }
        for (int m = 0; m < 16; m++) {
            is("strength of " + m, x.manIs(m, 0), 50 + m);
            is("tired, " + m, x.manIs(m, 1), m + 1);
        }
    }

    static void promise33_ordersAreUndone() {
        StrongMen x = Edges.streetWithoutTape();
        x.keep();
        int tired = x.manIs(0, 1);
        is("orders", Due.orders(x, "0>77;7!;23@0;a9"), 4);
        x.undo();
        is("spot", x.thingIs(0, 1), 0);
        is("taken out", x.thingIs(7, 3), 99);
        is("house", x.thingIs(23, 0), 5);
        is("tired", x.manIs(0, 1), tired);
    }

    static void promise33_theLawRostersAndTheTapeAreNotUndone() {
        StrongMen x = Edges.heldHouse();
        x.keep();
        Due.law(x, "t5(1=1);y1(1=1)");
        Due.roster(x, 0, 0, "b.");
        Due.feed(x, "x(1=1)");
        is("undo", Edges.yes(x.undo()), 1);
        is("rules", x.count(6), 2);
        is("hours of the roster", x.relieved(0, 0, 3), 2);
        is("bytes of the tape", x.count(7), 20);
        is("who has the corner", x.duty(0, 0), 1);
        is("the law on the tape", x.law(6), 1);
    }

    static void promise33_undoneAgainAndAgain() {
        StrongMen x = Edges.heldHouse();
        Due.law(x, "t5(1=1);d5(1=1)");
        x.hours(1);
        x.keep();
        int sag = x.houseIs(0, 2);
        int more = x.hours(5);
        for (int k = 0; k < 3; k++) {
            is("undo", Edges.yes(x.undo()), 1);
            is("the hour", x.count(0), 1);
            is("sag", x.houseIs(0, 2), sag);
            is("tired", x.manIs(0, 1), 5);
            is("the same hours come again", x.hours(5), more);
        }
    }

    // ---- promise 34 ----

    static void promise34_nIs0To16() {
        for (int n : new int[] {-1, 17, 20, Edges.LOW, Edges.HIGH}) {
            Edges.refused("check(" + n + ")", x -> x.check(n), -2);
        }
        Edges.takesTapeAlone("check(0)", x -> x.check(0), -1);
        Edges.takesTapeAlone("check(1): t is 116", x -> x.check(1), 0);
        Edges.takesTapeAlone("check(16)", x -> x.check(16), 0);
    }

    static void promise34_theTapeHasNotSoMany() {
        Edges.refusedWithoutTape("check(1) of none", x -> x.check(1), -2);
        Edges.refusedWithoutTape("check(16) of none", x -> x.check(16), -2);
        Edges.refusedWithoutTape("check(0) of none is right", x -> x.check(0), -1);
    }

    private static StrongMen tired() {
        StrongMen x = new StrongMen();
        for (int m = 0; m < 16; m++) {
            if (m != 3 && m != 14) {
                x.man(m, 50);
            }
            x.house(m / 4, 1, 0);
            Due.roster(x, m / 4, m % 4, String.valueOf((char) ('a' + m)));
        }
        Due.law(x, "tm*7(1=1)");
        x.hours(1);
        return x;
    }

    private static int[] asTheyAre() {
        int[] bytes = new int[16];
        for (int m = 0; m < 16; m++) {
            bytes[m] = m == 3 || m == 14 ? 0 : Math.min(99, 7 * m);
        }
        return bytes;
    }

    static void promise34_theFirstThatIsNotSo() {
        is("right", Due.check(tired(), asTheyAre()), -1);
        for (int m = 0; m < 16; m++) {
            for (int off : new int[] {1, 255}) {
                int[] bytes = asTheyAre();
                bytes[m] += off;
                is("man " + m, Due.check(tired(), bytes), m);
                bytes[15] += 3;
                is("man " + m + " and the last", Due.check(tired(), bytes), m);
            }
        }
    }

    static void promise34_theFirstNAlone() {
        for (int n = 0; n <= 16; n++) {
            int[] bytes = asTheyAre();
            if (n < 16) {
                bytes[n]++;
            }
            StrongMen x = tired();
            Due.feed(x, bytes);
            is("the first " + n, x.check(n), -1);
            is("the tape", x.count(7), 0);
            Due.feed(x, bytes);
            is("one more", x.check(n + 1), n < 16 ? n : -2);
        }
    }

    static void promise34_ofMenThatAreNotTold0() {
        int[] bytes = asTheyAre();
        StrongMen x = tired();
        is("0", Due.check(x, bytes), -1);
        bytes[3] = 21;
        is("not what he would be", Due.check(x, bytes), 3);
        StrongMen y = new StrongMen();
        is("none is told", Due.check(y, new int[16]), -1);
        is("none is told, the last", Due.check(y, 0, 0, 0, 0, 0, 0, 0, 0, 0, 0, 0, 0, 0, 0, 0, 1), 15);
    }
}
