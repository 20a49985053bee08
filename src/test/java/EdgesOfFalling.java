/** Boundary sentences of promises 23 to 25: who is knocked over, who must be pushed, who has to strike. */
final class EdgesOfFalling {
    private static final int LOW = Edges.LOW;
    private static final int HIGH = Edges.HIGH;

    private EdgesOfFalling() { }

    private static void is(String call, long got, long want) {
        Edges.is(call, got, want);
    }

    /** Houses by their storeys and places, in turn. */
    private static StrongMen row(int... storeysAndPlaces) {
        StrongMen x = new StrongMen();
        for (int k = 0; k < storeysAndPlaces.length; k += 2) {
            x.house(k / 2, storeysAndPlaces[k], storeysAndPlaces[k + 1]);
        }
        return x;
    }

    // ---- promise 23 ----

    static void promise23_aToldHouseThatHasNotFallen() {
        for (int i : new int[] {-1, 1, 2, 3, 4, 6, LOW, HIGH}) {
            Edges.refused("knocked(" + i + ", true)", x -> x.knocked(i, true), -1);
            Edges.refused("knocked(" + i + ", false)", x -> x.knocked(i, false), -1);
        }
        Edges.changesNothing("knocked(0, true)", x -> x.knocked(0, true), 1);
        Edges.changesNothing("knocked(5, false)", x -> x.knocked(5, false), 32);
    }

    static void promise23_itItselfToo() {
        for (int i = 0; i < 6; i++) {
            StrongMen x = new StrongMen();
            x.house(i, 1, 50);
            is("to the right", x.knocked(i, true), 1 << i);
            is("to the left", x.knocked(i, false), 1 << i);
        }
    }

    static void promise23_noMoreThanItsHeightAway() {
        for (int storeys = 1; storeys <= 9; storeys++) {
            for (int away = 0; away <= 3 * storeys + 1; away++) {
                boolean over = away > 0 && away <= 3 * storeys;
                StrongMen x = row(storeys, 40, 1, 40 + away);
                is("to the right, " + away + " away", x.knocked(0, true), over ? 3 : 1);
                is("it does not fall to the left", x.knocked(0, false), 1);
                StrongMen y = row(storeys, 40, 1, 40 - away);
                is("to the left, " + away + " away", y.knocked(0, false), over ? 3 : 1);
                is("it does not fall to the right", y.knocked(0, true), 1);
            }
        }
    }

    static void promise23_atOnePlaceNoneIsKnockedOver() {
        StrongMen x = row(9, 50, 9, 50, 9, 50);
        is("to the right", x.knocked(1, true), 2);
        is("to the left", x.knocked(1, false), 2);
    }

    static void promise23_theEndsOfTheStreet() {
        StrongMen x = row(9, 0, 9, 27, 9, 54, 9, 81, 6, 99);
        is("all to the right", x.knocked(0, true), 31);
        is("none to the left of 0", x.knocked(0, false), 1);
        is("none to the right of 99", x.knocked(4, true), 16);
        is("all to the left", x.knocked(4, false), 31);
        x.house(4, 5, 99);
        is("18 are too many for 15", x.knocked(4, false), 16);
    }

    static void promise23_andSoOnFromEachThatIsKnockedOver() {
        StrongMen x = row(1, 13, 1, 10, 1, 19, 1, 16, 1, 25, 1, 22);
        is("all six from the left end", x.knocked(1, true), 63);
        is("all six from the right end", x.knocked(4, false), 63);
        is("from the middle to the right", x.knocked(3, true), 8 + 4 + 32 + 16);
        is("from the middle to the left", x.knocked(3, false), 8 + 1 + 2);
        x.house(3, 1, 17);
        is("a gap of 4", x.knocked(1, true), 3);
    }

    static void promise23_aTallOneReachesOverSmallOnes() {
        StrongMen x = row(3, 10, 1, 12, 1, 19);
        is("9 away from the first", x.knocked(0, true), 7);
        is("not from the second", x.knocked(1, true), 2);
    }

    static void promise23_aFallenOneIsNotKnockedOverNorKnocks() {
        StrongMen x = row(1, 10, 9, 13, 1, 16);
        x.hours(3);
        x.house(0, 1, 10);
        x.house(2, 1, 16);
        is("1 has fallen", x.count(3), 2);
        is("to the right", x.knocked(0, true), 1);
        is("to the left", x.knocked(2, false), 4);
        x.house(1, 9, 13);
        is("it stands anew", x.knocked(0, true), 7);
    }

    // ---- promise 24 ----

    static void promise24_whatIs0Or1() {
        for (int what : new int[] {-1, 2, LOW, HIGH}) {
            Edges.refused("fewest(" + what + ")", x -> x.fewest(what), -1);
            is("none is told, fewest(" + what + ")", new StrongMen().fewest(what), -1);
        }
        Edges.changesNothing("fewest(0)", x -> x.fewest(0), 2);
        Edges.changesNothing("fewest(1)", x -> x.fewest(1), 33);
    }

    private static void fewest(StrongMen x, int number, int bits) {
        is("how many", x.fewest(0), number);
        is("which", x.fewest(1), bits);
    }

    static void promise24_noneStands() {
        fewest(new StrongMen(), 0, 0);
        StrongMen x = row(1, 0, 1, 50);
        x.hours(3);
        fewest(x, 0, 0);
        x.house(1, 1, 50);
        fewest(x, 1, 2);
    }

    static void promise24_allSixMustBePushed() {
        fewest(row(1, 0, 1, 10, 1, 20, 1, 30, 1, 40, 1, 50), 6, 63);
        fewest(row(9, 50, 9, 50, 9, 50, 9, 50, 9, 50, 9, 50), 6, 63);
    }

    static void promise24_oneIsEnough() {
        fewest(row(1, 0, 1, 3, 1, 6, 1, 9, 1, 12, 1, 15), 1, 1);
        fewest(row(1, 15, 1, 12, 1, 9, 1, 6, 1, 3, 1, 0), 1, 1);
        fewest(row(1, 3, 1, 0, 1, 6, 1, 9, 1, 12, 1, 15), 1, 2);
        fewest(row(1, 3, 1, 12, 1, 6, 1, 9, 1, 0, 1, 15), 1, 16);
    }

    static void promise24_everyHouseAloneCanBeEnough() {
        for (int tall = 0; tall < 6; tall++) {
            StrongMen x = new StrongMen();
            StrongMen y = new StrongMen();
            for (int i = 0; i < 6; i++) {
                int away = 5 * ((i - tall + 6) % 6);
                x.house(i, i == tall ? 9 : 1, 30 + away);
                y.house(i, i == tall ? 9 : 1, 60 - away);
            }
            fewest(x, 1, 1 << tall);
            fewest(y, 1, 1 << tall);
        }
    }

    static void promise24_ofLikeOnesTheLeastBits() {
        fewest(row(1, 0, 1, 3), 1, 1);
        fewest(row(1, 3, 1, 0, 1, 50, 1, 53), 2, 5);
        fewest(row(1, 53, 1, 50, 1, 3, 1, 0), 2, 5);
        fewest(row(1, 3, 1, 6, 1, 0), 1, 2);
    }

    static void promise24_eachIsPushedToOneSideOnly() {
        fewest(row(1, 3, 1, 0, 1, 6), 1, 2);
        fewest(row(9, 30, 1, 20, 1, 40), 2, 3);
        fewest(row(9, 30, 1, 3, 1, 57), 2, 3);
        fewest(row(9, 30, 1, 2, 1, 57), 2, 3);
        fewest(row(9, 30, 1, 2, 1, 58), 3, 7);
    }

    static void promise24_fallenOnesAside() {
        StrongMen x = row(1, 0, 1, 3, 1, 6);
        x.hours(3);
        x.house(0, 1, 0);
        x.house(2, 1, 6);
        fewest(x, 2, 5);
        x.house(1, 1, 3);
        fewest(x, 1, 1);
    }

    // ---- promise 25 ----

    static void promise25_nIs1To3AndWhat0Or1() {
        for (int n : new int[] {0, 4, -1, LOW, HIGH}) {
            Edges.refused("strike(" + n + ", 0)", x -> x.strike(n, 0), -1);
            is("none is told, strike(" + n + ", 0)", new StrongMen().strike(n, 0), -1);
        }
        for (int what : new int[] {-1, 2, LOW, HIGH}) {
            Edges.refused("strike(1, " + what + ")", x -> x.strike(1, what), -1);
            is("none is told, strike(1, " + what + ")", new StrongMen().strike(1, what), -1);
        }
        int[] hours = {24, 48, 66};
        int[] who = {1, 0x8001, 0x8003};
        for (int n = 1; n <= 3; n++) {
            int asked = n;
            Edges.changesNothing("strike(" + n + ", 0)", x -> x.strike(asked, 0), hours[n - 1]);
            Edges.changesNothing("strike(" + n + ", 1)", x -> x.strike(asked, 1), who[n - 1]);
        }
    }

    static void promise25_fewerAreTold() {
        StrongMen x = new StrongMen();
        for (int told = 0; told < 4; told++) {
            for (int n = 1; n <= 3; n++) {
                is(n + " of " + told + ", how many", x.strike(n, 0), n > told ? -2 : 0);
                is(n + " of " + told + ", who", x.strike(n, 1), n > told ? -2 : (1 << n) - 1);
            }
            x.man(told, 1);
        }
    }

    static void promise25_ofLikeOnesTheLeastBits() {
        StrongMen x = new StrongMen();
        x.house(0, 1, 0);
        for (int m : new int[] {2, 5, 9, 15}) {
            x.man(m, 1);
        }
        is("nobody is missed: the lowest", x.strike(3, 1), 4 + 32 + 512);
        Due.roster(x, 0, 0, "pj");
        is("p or j", x.strike(1, 1), 512);
        is("p and j", x.strike(2, 1), 512 + 32768);
        is("p, j and the lowest", x.strike(3, 1), 4 + 512 + 32768);
        is("24 hours", x.strike(3, 0), 24);
        Due.roster(x, 0, 1, "p");
        is("p", x.strike(1, 1), 32768);
    }

    static void promise25_the24HoursFromTheHourOn() {
        StrongMen x = new StrongMen();
        x.house(0, 1, 0);
        x.man(0, 1);
        x.man(1, 1);
        Due.roster(x, 0, 0, "2a9.9.4.bb");
        is("hours of the roster", x.relieved(0, 0, 3), 26);
        is("a has 0 and 1, b 24 and 25", x.strike(1, 0) * 10 + x.strike(1, 1), 21);
        x.hours(1);
        is("a has 1, b 24", x.strike(1, 0) * 10 + x.strike(1, 1), 11);
        x.hours(1);
        is("b has 24 and 25", x.strike(1, 0) * 10 + x.strike(1, 1), 22);
    }

    static void promise25_housesThatAreFallenOrNotToldDoNotCount() {
        StrongMen x = new StrongMen();
        x.man(0, 1);
        Due.roster(x, 0, 0, "a");
        is("its house is not told", x.strike(1, 0), 0);
        x.house(0, 1, 0);
        is("told", x.strike(1, 0), 24);
        x.hours(3);
        is("fallen", x.strike(1, 0), 0);
    }

    static void promise25_moreThanNow() {
        StrongMen x = new StrongMen();
        x.house(0, 1, 0);
        x.house(5, 1, 0);
        x.man(0, 1);
        x.man(1, 1);
        for (int c = 0; c < 4; c++) {
            Due.roster(x, 0, c, "a");
            Due.roster(x, 5, c, "a");
        }
        is("he is missing in seven already", x.strike(1, 0), 24);
        Due.roster(x, 5, 3, "b.");
        is("both", x.strike(2, 0), 36);
        is("a", x.strike(1, 1), 1);
    }
}
