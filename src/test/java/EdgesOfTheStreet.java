/** Boundary sentences of promises 1 to 5: a new object, houses, things, men, the tape. */
final class EdgesOfTheStreet {
    private static final int LOW = Edges.LOW;
    private static final int HIGH = Edges.HIGH;

    private EdgesOfTheStreet() { }

    private static void is(String call, long got, long want) {
        Edges.is(call, got, want);
    }

    private static void is(String call, boolean got, boolean want) {
        Edges.is(call, got, want);
    }

    // ---- promise 1 ----

    static void promise01_noHouses() {
        StrongMen x = new StrongMen();
        is("told houses", x.count(2), 0);
        is("fallen houses", x.count(3), 0);
        for (int i = 0; i < 6; i++) {
            is("houseIs", x.houseIs(i, 2), -1);
            is("load", x.load(i, 0), -1);
            is("duty", x.duty(i, 0), -1);
            is("knocked", x.knocked(i, true), -1);
            is("thing in it", x.thing(0, i, 0, 0, 1), false);
        }
    }

    static void promise01_noThings() {
        StrongMen x = new StrongMen();
        is("told things", x.count(5), 0);
        for (int i = 0; i < 6; i++) {
            x.house(i, 1, i);
            is("things in house " + i, x.houseIs(i, 3), 0);
            is("their weight", x.houseIs(i, 5), 0);
        }
        for (int t = 0; t < 24; t++) {
            is("thingIs", x.thingIs(t, 0), -1);
        }
    }

    static void promise01_noMen() {
        StrongMen x = new StrongMen();
        is("told men", x.count(4), 0);
        for (int m = 0; m < 16; m++) {
            is("manIs", x.manIs(m, 1), -1);
        }
    }

    static void promise01_noLaw() {
        StrongMen x = Edges.heldHouse();
        is("rules", x.count(6), 0);
        is("nobody lets go or sneezes", x.hours(240), 0);
        is("nobody tires", x.manIs(0, 1), 0);
    }

    static void promise01_theSeedIsOne() {
        StrongMen x = Edges.heldHouse();
        is("X", x.count(8), 1);
        x.hours(1);
        is("X behind four draws", x.count(8), Edges.drawn(Edges.drawn(Edges.drawn(39022))));
    }

    static void promise01_hourAndDayAreNought() {
        StrongMen x = new StrongMen();
        is("the hour", x.count(0), 0);
        is("the day", x.count(1), 0);
        is("the day, when it is kept", x.keep(), 0);
    }

    static void promise01_theTapeIsEmpty() {
        StrongMen x = new StrongMen();
        is("bytes", x.count(7), 0);
        is("law(1)", x.law(1), -1);
        is("roster(0, 0, 1)", x.roster(0, 0, 1), -1);
        is("orders(1)", x.orders(1), -1);
        is("bread(1)", x.bread(1), -1);
        is("beams(1)", x.beams(1), -1);
        is("check(1)", x.check(1), -2);
        is("check(0)", x.check(0), -1);
    }

    static void promise01_noRosters() {
        StrongMen x = new StrongMen();
        for (int corner = 0; corner < 24; corner++) {
            x.house(corner / 4, 1, 0);
            is("hours of the roster", x.relieved(corner / 4, corner % 4, 3), 0);
            is("nobody", x.duty(corner / 4, corner % 4), -2);
        }
    }

    static void promise01_noneIsKept() {
        is("undo", new StrongMen().undo(), false);
    }

    static void promise01_objectsShareNothing() {
        StrongMen x = Edges.street();
        StrongMen y = new StrongMen();
        for (int what = 0; what < 9; what++) {
            is("count(" + what + ")", y.count(what), what == 8 ? 1 : 0);
        }
        is("undo", y.undo(), false);
        y.house(0, 1, 1);
        is("hours of the roster", y.relieved(0, 0, 3), 0);
        is("rules of the other", x.count(6), 4);
    }

    // ---- promise 2 ----

    static void promise02_numbersAre0To5() {
        for (int i = 0; i < 6; i++) {
            StrongMen x = new StrongMen();
            is("house(" + i + ", 1, 0)", x.house(i, 1, 0), true);
            is("told", x.count(2), 1 << i);
        }
        for (int i : new int[] {-1, 6, LOW, HIGH}) {
            Edges.refused("house(" + i + ", 1, 0)", x -> Edges.yes(x.house(i, 1, 0)), 0);
        }
    }

    static void promise02_storeysAre1To9() {
        for (int storeys = 1; storeys <= 9; storeys++) {
            StrongMen x = new StrongMen();
            is("house(0, " + storeys + ", 0)", x.house(0, storeys, 0), true);
            is("storeys", x.houseIs(0, 0), storeys);
            is("load", x.load(0, 0), 640 * storeys);
        }
        for (int storeys : new int[] {0, 10, -1, LOW, HIGH}) {
            Edges.refused("house(0, " + storeys + ", 0)", x -> Edges.yes(x.house(0, storeys, 0)), 0);
            Edges.refused("house(1, " + storeys + ", 0)", x -> Edges.yes(x.house(1, storeys, 0)), 0);
        }
    }

    static void promise02_placesAre0To99() {
        StrongMen x = new StrongMen();
        for (int place : new int[] {0, 1, 98, 99}) {
            is("house(0, 1, " + place + ")", x.house(0, 1, place), true);
            is("place", x.houseIs(0, 1), place);
        }
        for (int place : new int[] {-1, 100, LOW, HIGH}) {
            Edges.refused("house(0, 1, " + place + ")", y -> Edges.yes(y.house(0, 1, place)), 0);
            Edges.refused("house(1, 1, " + place + ")", y -> Edges.yes(y.house(1, 1, place)), 0);
        }
    }

    static void promise02_allSixCanBeToldAtOnePlace() {
        StrongMen x = new StrongMen();
        for (int i = 0; i < 6; i++) {
            is("house " + i, x.house(i, 9, 50), true);
        }
        is("told", x.count(2), 63);
        is("fallen", x.count(3), 0);
    }

    static void promise02_sagIs0AtFirstAndAnew() {
        StrongMen x = new StrongMen();
        x.house(0, 1, 0);
        is("at first", x.houseIs(0, 2), 0);
        x.hours(2);
        is("behind two hours", x.houseIs(0, 2), 8);
        x.house(0, 1, 0);
        is("anew", x.houseIs(0, 2), 0);
    }

    static void promise02_aFallenOneStandsAnew() {
        StrongMen x = new StrongMen();
        x.house(3, 1, 0);
        x.hours(3);
        is("fallen", x.count(3), 8);
        is("house again", x.house(3, 2, 7), true);
        is("not fallen", x.count(3), 0);
        is("it can be knocked over", x.knocked(3, true), 8);
        is("it sags again", x.hours(1), 4);
    }

    static void promise02_inPlaceOfTheOneBefore() {
        StrongMen x = new StrongMen();
        x.house(4, 3, 20);
        x.house(1, 2, 30);
        x.house(4, 9, 0);
        is("storeys", x.houseIs(4, 0), 9);
        is("place", x.houseIs(4, 1), 0);
        is("storeys of the other", x.houseIs(1, 0), 2);
        is("place of the other", x.houseIs(1, 1), 30);
        is("told", x.count(2), 18);
    }

    static void promise02_thingsStay() {
        StrongMen x = new StrongMen();
        x.house(1, 1, 0);
        x.thing(0, 1, 8, 0, 5);
        x.thing(23, 1, 0, 8, 6);
        x.house(1, 2, 3);
        is("things", x.houseIs(1, 3), 2);
        is("weight", x.houseIs(1, 5), 11);
        is("spot", x.thingIs(0, 1), 8);
    }

    static void promise02_rostersStay() {
        StrongMen x = new StrongMen();
        x.man(2, 1);
        for (int c = 0; c < 4; c++) {
            Due.roster(x, 1, c, "c.");
        }
        x.house(1, 1, 0);
        x.house(1, 2, 3);
        for (int c = 0; c < 4; c++) {
            is("roster of corner " + c, x.duty(1, c) * 10 + x.relieved(1, c, 3), 22);
        }
    }

    // ---- promise 3 ----

    static void promise03_numbersAre0To23() {
        StrongMen x = new StrongMen();
        x.house(0, 1, 0);
        for (int t = 0; t < 24; t++) {
            is("thing(" + t + ", ..)", x.thing(t, 0, 0, 0, 1), true);
            is("told", x.count(5), t + 1);
        }
        is("all of them in the house", x.houseIs(0, 3), 24);
        is("a 25th", x.thing(24, 0, 0, 0, 1), false);
        is("still 24", x.count(5), 24);
        for (int t : new int[] {-1, 24, LOW, HIGH}) {
            Edges.refused("thing(" + t + ", 0, 0, 0, 1)", y -> Edges.yes(y.thing(t, 0, 0, 0, 1)), 0);
        }
    }

    static void promise03_inAToldHouse() {
        StrongMen x = new StrongMen();
        x.house(0, 1, 0);
        x.house(5, 1, 0);
        is("in house 0", x.thing(0, 0, 0, 0, 1), true);
        is("in house 5", x.thing(1, 5, 0, 0, 1), true);
        is("its house", x.thingIs(1, 0), 5);
        for (int i : new int[] {1, 3, 4, -1, 6, LOW, HIGH}) {
            Edges.refused("thing(0, " + i + ", ..)", y -> Edges.yes(y.thing(0, i, 0, 0, 1)), 0);
            Edges.refused("thing(1, " + i + ", ..)", y -> Edges.yes(y.thing(1, i, 0, 0, 1)), 0);
        }
    }

    static void promise03_aFallenHouseIsTold() {
        StrongMen x = Edges.street();
        is("house 2 has fallen", x.count(3), 4);
        is("a thing in it", x.thing(1, 2, 1, 1, 1), true);
        is("its things", x.houseIs(2, 3), 2);
    }

    static void promise03_spotsAre0To8() {
        StrongMen x = new StrongMen();
        x.house(0, 1, 0);
        for (int k = 0; k <= 8; k++) {
            is("x " + k, x.thing(0, 0, k, 8 - k, 1), true);
            is("x", x.thingIs(0, 1), k);
            is("y", x.thingIs(0, 2), 8 - k);
        }
        for (int k : new int[] {-1, 9, LOW, HIGH}) {
            Edges.refused("x " + k, y -> Edges.yes(y.thing(0, 0, k, 0, 1)), 0);
            Edges.refused("y " + k, y -> Edges.yes(y.thing(0, 0, 0, k, 1)), 0);
        }
    }

    static void promise03_weightsAre1To99() {
        StrongMen x = new StrongMen();
        x.house(0, 1, 0);
        for (int weight : new int[] {1, 2, 98, 99}) {
            is("weight " + weight, x.thing(0, 0, 0, 0, weight), true);
            is("weight", x.thingIs(0, 3), weight);
        }
        for (int weight : new int[] {0, 100, -1, LOW, HIGH}) {
            Edges.refused("weight " + weight, y -> Edges.yes(y.thing(0, 0, 0, 0, weight)), 0);
        }
    }

    static void promise03_inPlaceOfTheOneBefore() {
        StrongMen x = new StrongMen();
        x.house(0, 1, 0);
        x.house(1, 1, 0);
        x.thing(9, 0, 8, 8, 99);
        is("told anew", x.thing(9, 1, 0, 1, 2), true);
        is("one thing", x.count(5), 1);
        is("none in the house before", x.houseIs(0, 3), 0);
        is("no load there", x.load(0, 3), 640);
        is("one in the new house", x.houseIs(1, 3), 1);
        is("its load", x.load(1, 0), 640 + 2 * 8 * 7);
    }

    // ---- promise 4 ----

    static void promise04_numbersAre0To15() {
        StrongMen x = new StrongMen();
        for (int m = 0; m < 16; m++) {
            is("man(" + m + ", 1)", x.man(m, 1), true);
            is("told", x.count(4), (2 << m) - 1);
        }
        for (int m : new int[] {-1, 16, LOW, HIGH}) {
            Edges.refused("man(" + m + ", 1)", y -> Edges.yes(y.man(m, 1)), 0);
        }
    }

    static void promise04_strengthsAre1To99() {
        StrongMen x = new StrongMen();
        for (int strength : new int[] {1, 2, 98, 99}) {
            is("man(0, " + strength + ")", x.man(0, strength), true);
            is("strength", x.manIs(0, 0), strength);
        }
        for (int strength : new int[] {0, 100, -1, LOW, HIGH}) {
            Edges.refused("man(0, " + strength + ")", y -> Edges.yes(y.man(0, strength)), 0);
            Edges.refused("man(9, " + strength + ")", y -> Edges.yes(y.man(9, strength)), 0);
        }
    }

    static void promise04_tiredIs0AtFirstAndAnew() {
        StrongMen x = Edges.heldHouse();
        is("at first", x.manIs(1, 1), 0);
        Due.law(x, "t99(1=1)");
        x.hours(1);
        is("behind an hour", x.manIs(1, 1), 99);
        is("man again", x.man(1, 50), true);
        is("anew", x.manIs(1, 1), 0);
        is("of the others", x.manIs(0, 1) + x.manIs(2, 1), 198);
    }

    static void promise04_inPlaceOfTheOneBefore() {
        StrongMen x = new StrongMen();
        x.man(15, 7);
        x.man(14, 8);
        x.man(15, 9);
        is("strength", x.manIs(15, 0), 9);
        is("of the other", x.manIs(14, 0), 8);
        is("told", x.count(4), 0xc000);
    }

    // ---- promise 5 ----

    static void promise05_twentyBytesUpTo260() {
        StrongMen x = new StrongMen();
        for (int k = 1; k <= 13; k++) {
            is("feed number " + k, x.feed(k, k, k, k, k), 20 * k);
            is("bytes", x.count(7), 20 * k);
        }
        is("a 14th", x.feed(0, 0, 0, 0, 0), -1);
        is("bytes", x.count(7), 260);
    }

    static void promise05_aFullTapeStaysAsItIs() {
        StrongMen x = new StrongMen();
        Due.feed(x, "x(" + Edges.times(118, "1", "+") + "=1)" + "z".repeat(20));
        is("full", x.count(7), 260);
        is("feed", x.feed(HIGH, LOW, -1, 0, 1), -1);
        is("its 240 first bytes are a law", x.law(240), 1);
        is("empty then", x.count(7), 0);
        is("it can be fed again", x.feed(0, 0, 0, 0, 0), 20);
    }

    static void promise05_aRefusedFeedChangesNothingElse() {
        StrongMen x = Edges.street();
        for (int k = 0; k < 12; k++) {
            x.feed(0, 0, 0, 0, 0);
        }
        int[] before = new int[9];
        for (int what = 0; what < 9; what++) {
            before[what] = x.count(what);
        }
        is("feed", x.feed(1, 2, 3, 4, 5), -1);
        for (int what = 0; what < 9; what++) {
            is("count(" + what + ")", x.count(what), before[what]);
        }
        is("the law on the tape", x.law(15), 2);
    }

    static void promise05_theHighestByteOfEachFirst() {
        for (int k = 0; k < 20; k++) {
            StrongMen x = new StrongMen();
            int[] words = new int[5];
            words[k / 4] = 1 << 24 - 8 * (k % 4);
            x.feed(words[0], words[1], words[2], words[3], words[4]);
            is("the first byte that is not 0", x.check(16), k < 16 ? k : -1);
        }
    }

    static void promise05_bytesComeInTheirOrder() {
        StrongMen x = new StrongMen();
        x.feed(0x61626364, 0x65666768, 0x696a6b6c, 0x6d6e6f70, 0x2e323961);
        x.feed(0x3228622e, 0x29616161, 0, 0, 0);
        x.house(0, 1, 0);
        for (int m = 0; m < 16; m++) {
            x.man(m, 1);
        }
        is("abcdefghijklmnop.29a is no roster", x.roster(0, 0, 20), -1018);
        x.feed(0x61626364, 0x65666768, 0x696a6b6c, 0x6d6e6f70, 0x2e613961);
        x.feed(0x3228622e, 0x29616161, 0, 0, 0);
        is("abcdefghijklmnop.a9a2(b.)", x.roster(0, 0, 25), 31);
        int[] due = {0, 1, 2, 3, 4, 5, 6, 7, 8, 9, 10, 11, 12, 13, 14, 15, -2, 0, 0, 0, 0, 0, 0, 0, 0, 0, 0,
            1, -2, 1, -2, 0};
        for (int hour = 0; hour < due.length; hour++) {
            is("hour " + hour, x.duty(0, 0), due[hour]);
            x.hours(1);
        }
    }

    static void promise05_bytesAre0To255() {
        StrongMen x = new StrongMen();
        x.feed(0xff00ffff, 0, 0, 0, 0);
        is("255 and 0 loaves", x.bread(2), 127);
        x.feed(-1, -1, -1, -1, -1);
        is("255 loaves each", x.bread(12), 0);
        x.feed(0x80000000, 0, 0, 0, 0);
        is("128 and 0 loaves", x.bread(2), 64);
    }
}
