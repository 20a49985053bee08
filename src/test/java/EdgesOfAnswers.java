/** Boundary sentences of promises 11 to 15, 29, 30 and 35: what is told of houses, things, men, corners. */
final class EdgesOfAnswers {
    private static final int LOW = Edges.LOW;
    private static final int HIGH = Edges.HIGH;

    private EdgesOfAnswers() { }

    private static void is(String call, long got, long want) {
        Edges.is(call, got, want);
    }

    /** All things in one house of nine storeys, at its far corner. */
    private static StrongMen fullHouse() {
        StrongMen x = new StrongMen();
        x.house(0, 9, 0);
        for (int t = 0; t < 24; t++) {
            x.thing(t, 0, 8, 8, 99);
        }
        return x;
    }

    // ---- promise 11 ----

    static void promise11_toldHousesAlone() {
        for (int i : new int[] {-1, 1, 3, 4, 6, LOW, HIGH}) {
            for (int what = 0; what < 6; what++) {
                int asked = what;
                Edges.refused("houseIs(" + i + ", " + what + ")", x -> x.houseIs(i, asked), -1);
            }
        }
    }

    static void promise11_whatIs0To5() {
        for (int what : new int[] {-1, 6, LOW, HIGH}) {
            Edges.refused("houseIs(0, " + what + ")", x -> x.houseIs(0, what), -1);
        }
        int[] due = {9, 99, 3, 1, 32, 1};
        StrongMen street = Edges.street();
        for (int what = 0; what < 6; what++) {
            int asked = what;
            int answer = what == 2 ? street.houseIs(5, 2) : due[what];
            Edges.changesNothing("houseIs(5, " + what + ")", x -> x.houseIs(5, asked), answer);
        }
    }

    static void promise11_anEmptyAndAFullHouse() {
        StrongMen x = new StrongMen();
        x.house(0, 1, 0);
        is("things", x.houseIs(0, 3), 0);
        is("even", x.houseIs(0, 4), 0);
        is("weight", x.houseIs(0, 5), 0);
        StrongMen full = fullHouse();
        is("things", full.houseIs(0, 3), 24);
        is("even", full.houseIs(0, 4), 24 * 99 * 64);
        is("weight", full.houseIs(0, 5), 24 * 99);
    }

    static void promise11_evenIsTheGreatestLessTheLeast() {
        for (int most = 0; most < 4; most++) {
            for (int least = 0; least < 4; least++) {
                StrongMen x = new StrongMen();
                x.house(0, 1, 0);
                for (int c = 0; c < 4; c++) {
                    x.thing(c, 0, c % 2 * 8, c / 2 * 8, c == most ? 9 : c == least ? 1 : 5);
                }
                is("even of " + most + ", " + least, x.houseIs(0, 4), most == least ? 64 * 4 : 64 * 8);
            }
        }
    }

    static void promise11_sagIs0To9() {
        StrongMen x = new StrongMen();
        x.house(0, 1, 0);
        int[] due = {0, 4, 8, 9, 9};
        for (int sag : due) {
            is("sag", x.houseIs(0, 2), sag);
            x.hours(1);
        }
    }

    // ---- promise 12 ----

    static void promise12_toldThingsAlone() {
        for (int t : new int[] {-1, 1, 6, 8, 22, 24, LOW, HIGH}) {
            for (int what = 0; what < 4; what++) {
                int asked = what;
                Edges.refused("thingIs(" + t + ", " + what + ")", x -> x.thingIs(t, asked), -1);
            }
        }
    }

    static void promise12_whatIs0To3() {
        for (int what : new int[] {-1, 4, LOW, HIGH}) {
            Edges.refused("thingIs(0, " + what + ")", x -> x.thingIs(0, what), -1);
        }
        int[] due = {5, 4, 8, 1};
        for (int what = 0; what < 4; what++) {
            int asked = what;
            Edges.changesNothing("thingIs(23, " + what + ")", x -> x.thingIs(23, asked), due[what]);
        }
        is("thing 0", Edges.street().thingIs(0, 0), 0);
    }

    static void promise12_everyThing() {
        StrongMen x = new StrongMen();
        x.house(0, 1, 0);
        x.house(5, 1, 0);
        for (int t = 0; t < 24; t++) {
            x.thing(t, t % 2 * 5, t % 9, 8 - t % 9, 99 - t);
        }
        for (int t = 0; t < 24; t++) {
            is("house", x.thingIs(t, 0), t % 2 * 5);
            is("x", x.thingIs(t, 1), t % 9);
            is("y", x.thingIs(t, 2), 8 - t % 9);
            is("weight", x.thingIs(t, 3), 99 - t);
        }
    }

    // ---- promise 13 ----

    static void promise13_toldMenAlone() {
        for (int m : new int[] {-1, 3, 14, 16, LOW, HIGH}) {
            for (int what = 0; what < 5; what++) {
                int asked = what;
                Edges.refused("manIs(" + m + ", " + what + ")", x -> x.manIs(m, asked), -1);
            }
        }
    }

    static void promise13_whatIs0To4() {
        for (int what : new int[] {-1, 5, LOW, HIGH}) {
            Edges.refused("manIs(0, " + what + ")", x -> x.manIs(0, what), -1);
        }
        int[] due = {30, 12, 20, 0, 24 * 9};
        for (int what = 0; what < 5; what++) {
            int asked = what;
            Edges.changesNothing("manIs(15, " + what + ")", x -> x.manIs(15, asked), due[what]);
        }
    }

    static void promise13_tiredIs0To99() {
        StrongMen x = Edges.heldHouse();
        Due.law(x, "t33(1=1)");
        int[] due = {0, 33, 66, 99, 99};
        for (int tired : due) {
            is("tired", x.manIs(3, 1), tired);
            x.hours(1);
        }
    }

    static void promise13_whereHeStands() {
        for (int corner = 0; corner < 24; corner++) {
            StrongMen x = new StrongMen();
            x.man(7, 1);
            is("nowhere", x.manIs(7, 2), -2);
            Due.roster(x, corner / 4, corner % 4, "h");
            is("its house is not told", x.manIs(7, 2), -2);
            x.house(corner / 4, 1, 0);
            is("there", x.manIs(7, 2), corner);
            x.hours(1);
            is("there still", x.manIs(7, 2), corner);
            x.hours(3);
            is("its house has fallen", x.manIs(7, 2), -2);
        }
    }

    static void promise13_inTheHourOfTheRoster() {
        StrongMen x = new StrongMen();
        x.house(2, 1, 0);
        x.man(0, 1);
        Due.roster(x, 2, 1, ".a");
        is("hour 0", x.manIs(0, 2), -2);
        x.hours(1);
        is("hour 1", x.manIs(0, 2), 9);
        x.hours(1);
        is("hour 2", x.manIs(0, 2), -2);
    }

    static void promise13_theLowestIfTwice() {
        StrongMen x = new StrongMen();
        x.house(1, 2, 0);
        x.house(4, 5, 0);
        x.man(0, 1);
        Due.roster(x, 4, 0, "a");
        is("once: where", x.manIs(0, 2), 16);
        is("once: pence", x.manIs(0, 4), 24 * 5);
        is("once: twice", x.manIs(0, 3), 0);
        Due.roster(x, 1, 3, "a.");
        is("twice: where", x.manIs(0, 2), 7);
        is("twice: pence", x.manIs(0, 4), 12 * 2 + 12 * 5);
        is("twice: twice", x.manIs(0, 3), 12);
        Due.roster(x, 1, 2, "a.");
        is("three corners are twice, too", x.manIs(0, 3), 12);
        is("where", x.manIs(0, 2), 6);
    }

    static void promise13_the24HoursFromTheHourOn() {
        StrongMen x = new StrongMen();
        x.house(0, 3, 0);
        x.man(0, 1);
        String day = "a" + "9.9.5.";
        Due.roster(x, 0, 0, day + "2a");
        Due.roster(x, 0, 1, day + "2a");
        is("hours of the roster", x.relieved(0, 0, 3), 26);
        is("hour 0 alone of 0 to 23: pence", x.manIs(0, 4), 3);
        is("twice", x.manIs(0, 3), 1);
        x.hours(1);
        is("hour 24 of 1 to 24: pence", x.manIs(0, 4), 3);
        is("twice", x.manIs(0, 3), 1);
        x.hours(1);
        is("hours 24, 25 of 2 to 25: pence", x.manIs(0, 4), 6);
        x.house(0, 3, 0);
        x.hours(1);
        is("hours 24, 25, 26 of 3 to 26: pence", x.manIs(0, 4), 9);
        is("twice", x.manIs(0, 3), 3);
    }

    static void promise13_housesThatAreFallenOrNotToldPayNothing() {
        StrongMen x = new StrongMen();
        x.house(0, 3, 0);
        x.man(0, 1);
        Due.roster(x, 0, 0, "a");
        Due.roster(x, 0, 1, "a");
        Due.roster(x, 1, 0, "a");
        is("pence", x.manIs(0, 4), 72);
        is("twice", x.manIs(0, 3), 24);
        x.hours(5);
        is("it has fallen", x.count(3), 1);
        is("pence", x.manIs(0, 4), 0);
        is("twice", x.manIs(0, 3), 0);
    }

    // ---- promise 14 ----

    static void promise14_toldHousesAndCorners0To3() {
        for (int i : new int[] {-1, 1, 3, 4, 6, LOW, HIGH}) {
            Edges.refused("load(" + i + ", 0)", x -> x.load(i, 0), -1);
        }
        for (int c : new int[] {-1, 4, LOW, HIGH}) {
            Edges.refused("load(0, " + c + ")", x -> x.load(0, c), -1);
            Edges.refused("load(5, " + c + ")", x -> x.load(5, c), -1);
        }
        Edges.changesNothing("load(5, 3)", x -> x.load(5, 3), 9 * 640 + 32);
    }

    static void promise14_emptyAndFull() {
        StrongMen x = new StrongMen();
        x.house(0, 1, 0);
        is("an empty house of one storey", x.load(0, 0), 640);
        StrongMen full = fullHouse();
        is("nine storeys", full.load(0, 0), 5760);
        is("all things", full.load(0, 3), 5760 + 24 * 99 * 64);
    }

    static void promise14_everySpot() {
        for (int at = 0; at <= 8; at++) {
            for (int y = 0; y <= 8; y++) {
                StrongMen x = new StrongMen();
                x.house(3, 1, 0);
                x.thing(0, 3, at, y, 10);
                is("corner 0", x.load(3, 0), 640 + 10 * (8 - at) * (8 - y));
                is("corner 1", x.load(3, 1), 640 + 10 * at * (8 - y));
                is("corner 2", x.load(3, 2), 640 + 10 * (8 - at) * y);
                is("corner 3", x.load(3, 3), 640 + 10 * at * y);
            }
        }
    }

    static void promise14_thingsOfTheHouseAlone() {
        StrongMen x = new StrongMen();
        x.house(0, 1, 0);
        x.house(1, 1, 0);
        x.thing(0, 0, 0, 0, 5);
        x.thing(1, 1, 0, 0, 7);
        is("house 0", x.load(0, 0), 640 + 320);
        is("house 1", x.load(1, 0), 640 + 448);
        is("a fallen house is as heavy", Edges.street().load(2, 1), 640 + 99 * 8 * 5);
    }

    // ---- promise 15 ----

    static void promise15_toldHousesAndCorners0To3() {
        for (int i : new int[] {-1, 1, 3, 4, 6, LOW, HIGH}) {
            Edges.refused("duty(" + i + ", 0)", x -> x.duty(i, 0), -1);
        }
        for (int c : new int[] {-1, 4, LOW, HIGH}) {
            Edges.refused("duty(0, " + c + ")", x -> x.duty(0, c), -1);
            Edges.refused("duty(5, " + c + ")", x -> x.duty(5, c), -1);
        }
        Edges.changesNothing("duty(5, 0)", x -> x.duty(5, 0), 15);
    }

    static void promise15_nobody() {
        StrongMen x = new StrongMen();
        x.house(0, 1, 0);
        is("no roster", x.duty(0, 0), -2);
        Due.roster(x, 0, 0, ".");
        is("a dot", x.duty(0, 0), -2);
        Due.roster(x, 0, 0, "a");
        is("not told", x.duty(0, 0), -2);
        x.man(0, 1);
        is("told", x.duty(0, 0), 0);
    }

    static void promise15_byItsRosterAlone() {
        StrongMen x = new StrongMen();
        x.house(0, 1, 0);
        x.house(1, 1, 0);
        x.man(0, 1);
        Due.roster(x, 0, 0, "a");
        Due.roster(x, 1, 3, "a");
        is("also where he is missing", x.duty(1, 3), 0);
        x.hours(5);
        is("also in a fallen house", x.duty(0, 0), 0);
    }

    // ---- promise 29 ----

    static void promise29_toldHousesCornersAndWhat() {
        for (int i : new int[] {-1, 1, 3, 4, 6, LOW, HIGH}) {
            Edges.refused("relieved(" + i + ", 3, 3)", x -> x.relieved(i, 3, 3), -1);
        }
        for (int c : new int[] {-1, 4, LOW, HIGH}) {
            Edges.refused("relieved(0, " + c + ", 0)", x -> x.relieved(0, c, 0), -1);
            Edges.refused("relieved(5, " + c + ", 3)", x -> x.relieved(5, c, 3), -1);
        }
        for (int what : new int[] {-1, 4, LOW, HIGH}) {
            Edges.refused("relieved(0, 0, " + what + ")", x -> x.relieved(0, 0, what), -1);
        }
        int[] due = {23, 12, 1, 4};
        for (int what = 0; what < 4; what++) {
            int asked = what;
            Edges.changesNothing("relieved(0, 2, " + what + ")", x -> x.relieved(0, 2, asked), due[what]);
        }
    }

    private static void day(String text, int changes, int nobody, int longest, int hours) {
        StrongMen x = new StrongMen();
        x.house(0, 1, 0);
        x.man(0, 1);
        x.man(1, 1);
        is("roster " + text, text.isEmpty() ? 0 : Due.roster(x, 0, 1, text), hours);
        is("changes of " + text, x.relieved(0, 1, 0), changes);
        is("nobody of " + text, x.relieved(0, 1, 1), nobody);
        is("longest of " + text, x.relieved(0, 1, 2), longest);
        is("hours of " + text, x.relieved(0, 1, 3), hours);
    }

    static void promise29_noRosterAndFullOnes() {
        day("", 0, 24, 0, 0);
        day(".", 0, 24, 0, 1);
        day("c", 0, 24, 0, 1);
        day("a", 0, 0, 24, 1);
        day("ab", 23, 0, 1, 2);
        day("8(6a)", 0, 0, 24, 48);
        day("9a9a5ab", 1, 0, 23, 24);
        day("9a9a6ab", 0, 0, 24, 25);
    }

    static void promise29_nobodyCountsAsOne() {
        day("a.", 23, 12, 1, 2);
        day("a.c", 15, 16, 1, 3);
        day(".c", 0, 24, 0, 2);
        day("..ab", 17, 12, 1, 4);
    }

    static void promise29_theMostThatOneManHasOnEnd() {
        day("2ab", 15, 0, 2, 3);
        day("2ab3a", 8, 0, 5, 6);
        day("ab9.9.4.", 2, 22, 1, 24);
        day("9.9.4.aa", 1, 22, 2, 24);
        day("2a2b", 11, 0, 2, 4);
    }

    static void promise29_fromTheHourOn() {
        StrongMen x = new StrongMen();
        x.house(0, 1, 0);
        x.man(0, 1);
        Due.roster(x, 0, 0, "a9.9.5.aa");
        is("hours 0 to 23", x.relieved(0, 0, 0) * 100 + x.relieved(0, 0, 1), 123);
        x.hours(1);
        is("hours 1 to 24: the first aside", x.relieved(0, 0, 0) * 100 + x.relieved(0, 0, 1), 123);
        is("hour 24 is his", x.relieved(0, 0, 2), 1);
        x.hours(1);
        is("hours 24 and 25", x.relieved(0, 0, 2), 2);
        x.hours(1);
        is("hours 24, 25 and 26 are 24, 25 and 0 of 26", x.relieved(0, 0, 2), 3);
        is("it has fallen", x.count(3), 1);
    }

    // ---- promise 30 ----

    static void promise30_whatIs0To2() {
        for (int what : new int[] {-1, 3, LOW, HIGH}) {
            Edges.refused("heaviest(" + what + ")", x -> x.heaviest(what), -1);
            is("no house, heaviest(" + what + ")", new StrongMen().heaviest(what), -1);
        }
        int[] due = {5, 2, 5760 + 32};
        for (int what = 0; what < 3; what++) {
            int asked = what;
            Edges.changesNothing("heaviest(" + what + ")", x -> x.heaviest(asked), due[what]);
            is("no house is told", new StrongMen().heaviest(what), -2);
        }
    }

    private static int heaviest(StrongMen x) {
        return x.heaviest(0) * 10 + x.heaviest(1);
    }

    static void promise30_ofLikeOnesTheLowestHouseThenCorner() {
        StrongMen x = new StrongMen();
        x.house(5, 2, 0);
        is("house 5", heaviest(x), 50);
        x.house(3, 2, 0);
        is("house 3", heaviest(x), 30);
        x.house(0, 1, 0);
        is("house 0 is lighter", heaviest(x), 30);
        x.house(0, 2, 0);
        is("house 0", heaviest(x), 0);
        x.thing(0, 5, 4, 8, 1);
        is("corners 2 and 3 of house 5", heaviest(x), 52);
        x.thing(1, 3, 8, 4, 1);
        is("corners 1 and 3 of house 3", heaviest(x), 31);
        x.thing(2, 0, 4, 8, 1);
        is("corners 2 and 3 of house 0", heaviest(x), 2);
    }

    static void promise30_everyCorner() {
        for (int corner = 0; corner < 24; corner++) {
            StrongMen x = new StrongMen();
            for (int i = 0; i < 6; i++) {
                x.house(i, 1, 0);
            }
            x.thing(0, corner / 4, corner % 2 * 8, corner / 2 % 2 * 8, 1);
            is("the corner", heaviest(x), corner / 4 * 10 + corner % 4);
            is("its load", x.heaviest(2), 704);
        }
    }

    static void promise30_fallenOnesToo() {
        StrongMen x = new StrongMen();
        x.house(1, 1, 0);
        x.house(4, 3, 0);
        x.hours(3);
        x.house(1, 1, 0);
        is("house 4 has fallen", x.count(3), 16);
        is("it is the heaviest", heaviest(x), 40);
    }

    // ---- promise 35 ----

    static void promise35_whatIs0To8() {
        for (int what : new int[] {-1, 9, LOW, HIGH}) {
            Edges.refused("count(" + what + ")", x -> x.count(what), -1);
        }
        int[] due = {4, 0, 37, 4, 0x8007, 3, 4, 20};
        for (int what = 0; what < due.length; what++) {
            int asked = what;
            Edges.changesNothing("count(" + what + ")", x -> x.count(asked), due[what]);
        }
    }

    static void promise35_emptyAndFull() {
        StrongMen x = new StrongMen();
        for (int i = 0; i < 6; i++) {
            x.house(i, 1, 0);
        }
        for (int t = 0; t < 24; t++) {
            x.thing(t, 0, 0, 0, 1);
        }
        for (int m = 0; m < 16; m++) {
            x.man(m, 1);
        }
        is("16 rules", Due.law(x, Edges.times(16, "x(1=1)", ";")), 16);
        for (int k = 0; k < 13; k++) {
            x.feed(0, 0, 0, 0, 0);
        }
        x.hours(23);
        x.seed(65535);
        int[] due = {23, 0, 63, 63, 0xffff, 24, 16, 260, 65535};
        int[] none = {0, 0, 0, 0, 0, 0, 0, 0, 1};
        for (int what = 0; what < 9; what++) {
            is("full, count(" + what + ")", x.count(what), due[what]);
            is("empty, count(" + what + ")", new StrongMen().count(what), none[what]);
        }
    }
}
