/** Boundary sentences of promises 9, 10, 16, 17 and 31: hours that go by, that are tried, and draws. */
final class EdgesOfHours {
    private static final int LOW = Edges.LOW;
    private static final int HIGH = Edges.HIGH;

    private EdgesOfHours() { }

    private static void is(String call, long got, long want) {
        Edges.is(call, got, want);
    }

    private static StrongMen houses(int... storeys) {
        StrongMen x = new StrongMen();
        for (int i = 0; i < storeys.length; i++) {
            x.house(i, storeys[i], 10 * i);
        }
        return x;
    }

    // ---- promise 9 ----

    static void promise09_nIs1To240() {
        for (int n : new int[] {0, -1, 241, LOW, HIGH}) {
            Edges.refused("hours(" + n + ")", x -> x.hours(n), -1);
        }
        StrongMen x = Edges.heldHouse();
        is("hours(1)", x.hours(1), 0);
        is("the hour", x.count(0), 1);
        is("hours(240)", x.hours(240), 0);
        is("the hour", x.count(0), 1);
        is("the day", x.count(1), 10);
    }

    static void promise09_theHourBehind23() {
        StrongMen x = new StrongMen();
        for (int hour = 0; hour < 50; hour++) {
            is("the hour", x.count(0), hour % 24);
            is("the day", x.count(1), hour / 24);
            is("hours(1)", x.hours(1), 0);
        }
        StrongMen y = new StrongMen();
        y.hours(23);
        is("23", y.count(1) * 100 + y.count(0), 23);
        y.hours(1);
        is("24", y.count(1) * 100 + y.count(0), 100);
        y.hours(25);
        is("49", y.count(1) * 100 + y.count(0), 201);
    }

    /** Beyond the 512 calls for which the document promises answers; our class keeps the sentence nonetheless. */
    static void promise09_theDayIs9999AtMost() {
        StrongMen x = new StrongMen();
        for (int k = 0; k < 999; k++) {
            x.hours(240);
        }
        is("the day", x.count(1), 9990);
        x.hours(238);
        x.man(0, 9);
        x.house(0, 1, 0);
        Due.roster(x, 0, 0, "a");
        Due.law(x, "t1(1=1)");
        is("day 9999, hour 22", x.count(1) * 100 + x.count(0), 999922);
        is("two hours are tried, one can go by", x.tried(2, 0), 3);
        is("it stands", x.stands(0, 240), -2);
        is("none falls", x.fallsFirst(240), -2);
        is("keep", x.keep(), 9999);
        is("as many as can", x.hours(240), 3);
        is("day 9999, hour 23", x.count(1) * 100 + x.count(0), 999923);
        is("then none goes by", x.hours(1), 0);
        is("nor 240", x.hours(240), 0);
        is("still day 9999, hour 23", x.count(1) * 100 + x.count(0), 999923);
        is("nobody tires", x.manIs(0, 1), 1);
        is("none are tried", x.tried(240, 0) + x.tried(240, 2) + x.tried(240, 3), 0);
        is("the 24 hours from it on can be told", x.manIs(0, 4) + x.relieved(0, 0, 1), 24);
    }

    static void promise09_nobodyThereSagIsOneMore() {
        StrongMen x = houses(1);
        is("four corners of nobody", x.hours(1), 4);
        is("sag", x.houseIs(0, 2), 4);
        x.man(0, 1);
        Due.roster(x, 0, 0, "a");
        is("three", x.hours(1), 3);
        is("sag", x.houseIs(0, 2), 7);
        is("not told ones of two houses", houses(1, 1).hours(1), 8);
    }

    static void promise09_sagIs9AtMost() {
        StrongMen x = houses(1);
        x.hours(2);
        is("sag 8: not fallen", x.houseIs(0, 2) * 10 + x.count(3), 80);
        is("one more", x.hours(1), 1);
        is("sag 9: fallen", x.houseIs(0, 2) * 10 + x.count(3), 91);
        is("no more", x.hours(240), 0);
        is("sag", x.houseIs(0, 2), 9);
        is("six houses", houses(1, 2, 3, 4, 5, 6).hours(240), 54);
    }

    static void promise09_aFallenOneIsNotHeldAnyMoreInThisHour() {
        StrongMen x = houses(1);
        x.man(0, 1);
        Due.roster(x, 0, 3, "a");
        Due.law(x, "t10(1=1);y1(1=1)");
        x.hours(2);
        is("a stood twice", x.manIs(0, 1), 20);
        is("sag 6", x.houseIs(0, 2), 6);
        is("it falls at corner 2", x.hours(1), 3);
        is("a was not asked; he rests", x.manIs(0, 1), 19);
        is("corners held by nobody", x.tried(1, 2), 0);
    }

    static void promise09_whoHeldWhereItFellDoesNotRest() {
        StrongMen x = houses(1);
        x.hours(2);
        x.man(0, 1);
        Due.roster(x, 0, 0, "a");
        Due.law(x, "t10(1=1);x(1=1);y1(1=1)");
        is("it falls by his letting go", x.hours(1), 1);
        is("he stood there", x.manIs(0, 1), 10);
        is("it has fallen", x.hours(1), 0);
        is("he rests now", x.manIs(0, 1), 9);
    }

    static void promise09_everyCorner() {
        for (int corner = 0; corner < 24; corner++) {
            StrongMen x = new StrongMen();
            for (int i = 0; i < 6; i++) {
                x.house(i, 1, 0);
            }
            x.man(15, 1);
            Due.roster(x, corner / 4, corner % 4, "p");
            is("held by nobody", x.tried(1, 2), 23);
            is("sag of its house", x.tried(1, 30 + corner / 4), 3);
            Due.law(x, "x(1=1)");
            is("he lets go", x.tried(1, 30 + corner / 4), 4);
            Due.law(x, "d10(1=1)");
            is("he sneezes", x.tried(1, 30 + corner / 4), 4);
            is("once", x.tried(1, 1), 1);
        }
    }

    static void promise09_theOneWhoStandsElsewhereIsMissing() {
        StrongMen x = houses(1, 1);
        x.man(0, 1);
        Due.roster(x, 0, 2, "a");
        Due.roster(x, 0, 3, "a");
        Due.roster(x, 1, 0, "a");
        Due.law(x, "t5(1=1)");
        is("seven corners of nobody", x.hours(1), 7);
        is("he tires once", x.manIs(0, 1), 5);
        is("house 0", x.houseIs(0, 2), 3);
        is("house 1", x.houseIs(1, 2), 4);
    }

    static void promise09_aFallenHouseKeepsNobody() {
        StrongMen x = houses(1, 1);
        x.man(0, 1);
        x.hours(3);
        x.house(1, 1, 0);
        Due.roster(x, 0, 0, "a");
        Due.roster(x, 1, 0, "a");
        is("house 0 has fallen", x.count(3), 1);
        is("he stands in house 1", x.hours(1), 3);
    }

    static void promise09_tiredIs99AtMost() {
        StrongMen x = Edges.heldHouse();
        Due.law(x, "t98(m=0);t99(m=1);t50(m=2)");
        is("b lets go", x.hours(1), 1);
        is("a", x.manIs(0, 1), 98);
        is("b", x.manIs(1, 1), 99);
        is("a, b and c", x.hours(1), 3);
        is("a, 99 at most", x.manIs(0, 1), 99);
        is("b, 99 at most", x.manIs(1, 1), 99);
        is("c, 99 at most", x.manIs(2, 1), 99);
        Due.law(x, "t0(1=1)");
        is("who is tired 99 lets go without tiring", x.hours(1), 3);
    }

    static void promise09_whoStoodNowhereRests() {
        StrongMen x = Edges.heldHouse();
        x.man(4, 1);
        Due.roster(x, 0, 0, "ae");
        Due.law(x, "t10(1=1);y3(1=1)");
        x.hours(1);
        is("e, 0 at least", x.manIs(4, 1), 0);
        x.hours(1);
        is("a rests", x.manIs(0, 1), 7);
        is("e", x.manIs(4, 1), 10);
        is("b has not", x.manIs(1, 1), 20);
        Due.law(x, "y7(1=1)");
        x.hours(1);
        is("e, 3 left", x.manIs(4, 1), 3);
        x.hours(2);
        is("e, 0 at least", x.manIs(4, 1), 0);
    }

    static void promise09_whoRestsDoesNotRestInAHouseThatIsNotTold() {
        StrongMen x = new StrongMen();
        x.man(0, 1);
        Due.roster(x, 0, 0, "a");
        Due.law(x, "t9(1=1)");
        is("no house", x.hours(5), 0);
        is("he does not tire", x.manIs(0, 1), 0);
    }

    // ---- draws ----

    static void promise09_aDrawOfEachWhoHasNotLetGo() {
        StrongMen x = Edges.heldHouse();
        int now = 1;
        x.hours(1);
        for (int c = 0; c < 4; c++) {
            now = Edges.drawn(now);
        }
        is("without a law of d", x.count(8), now);
        Due.law(x, "t99(m=0);x(m=1)");
        x.hours(1);
        now = Edges.drawn(Edges.drawn(now));
        is("not of who is tired 99 or lets go", x.count(8), now);
        x.house(0, 1, 0);
        Due.roster(x, 0, 2, ".");
        x.hours(1);
        now = Edges.drawn(now);
        is("not of nobody", x.count(8), now);
        x.tried(240, 0);
        x.stands(0, 240);
        x.fallsFirst(240);
        is("not when it is tried", x.count(8), now);
        x.hours(240);
        int fallen = x.count(8);
        x.hours(240);
        is("not in a fallen house", x.count(8), fallen);
    }

    static void promise31_drawsAreModulo65536() {
        int[][] steps = {{0, 13849}, {1, 39022}, {2, 64195}, {3, 23832}, {65535, 54212}};
        for (int[] step : steps) {
            StrongMen x = new StrongMen();
            x.house(0, 1, 0);
            x.man(0, 1);
            Due.roster(x, 0, 0, "a");
            x.seed(step[0]);
            x.hours(1);
            is("X behind " + step[0], x.count(8), step[1]);
        }
    }

    static void promise31_theDrawIsXModulo10() {
        StrongMen x = Edges.heldHouse();
        for (int d = 0; d <= 10; d++) {
            Due.law(x, "d" + d + "(m=0)");
            x.seed(0);
            is("13849 draws 9, d " + d, x.tried(1, 1), d > 9 ? 1 : 0);
            x.seed(1);
            is("39022 draws 2, d " + d, x.tried(1, 1), d > 2 ? 1 : 0);
            x.seed(2);
            is("64195 draws 5, d " + d, x.tried(1, 1), d > 5 ? 1 : 0);
        }
    }

    static void promise31_seedsAre0To65535() {
        StrongMen x = new StrongMen();
        for (int seed : new int[] {0, 1, 65534, 65535}) {
            is("seed(" + seed + ")", Edges.yes(x.seed(seed)), 1);
            is("X", x.count(8), seed);
        }
        for (int seed : new int[] {-1, 65536, LOW, HIGH}) {
            Edges.refused("seed(" + seed + ")", y -> Edges.yes(y.seed(seed)), 0);
        }
    }

    // ---- promise 10 ----

    static void promise10_nIs1To240() {
        for (int n : new int[] {0, -1, 241, LOW, HIGH}) {
            for (int what : new int[] {0, 1, 2, 3, 10, 30}) {
                Edges.refused("tried(" + n + ", " + what + ")", x -> x.tried(n, what), -1);
            }
        }
        StrongMen x = Edges.heldHouse();
        Due.roster(x, 0, 0, "9a9a5a.3a");
        is("not in 239", x.tried(239, 3), 0);
        is("in 240", x.tried(240, 3), 1);
        is("in 1", x.tried(1, 2), 0);
    }

    static void promise10_whatIs0To3() {
        for (int what : new int[] {-1, 4, 9, 26, 29, 36, LOW, HIGH, LOW + 9, LOW + 10, LOW + 29, LOW + 30}) {
            Edges.refused("tried(1, " + what + ")", x -> x.tried(1, what), -1);
        }
    }

    static void promise10_ofToldMenAlone() {
        for (int m = 0; m < 16; m++) {
            StrongMen x = new StrongMen();
            int what = 10 + m;
            is("not told", x.tried(1, what), -1);
            x.man(m, 1);
            is("told", x.tried(1, what), 0);
            is("the one below", x.tried(1, what - 1), -1);
            is("the one above", x.tried(1, what + 1), -1);
        }
    }

    static void promise10_ofToldHousesAlone() {
        for (int i = 0; i < 6; i++) {
            StrongMen x = new StrongMen();
            int what = 30 + i;
            is("not told", x.tried(1, what), -1);
            x.house(i, 1, 0);
            is("told", x.tried(1, what), 4);
            is("the one below", x.tried(1, what - 1), -1);
            is("the one above", x.tried(1, what + 1), -1);
        }
    }

    static void promise10_nothingIsChanged() {
        StrongMen x = Edges.street();
        for (int what : new int[] {0, 1, 2, 3, 10, 11, 12, 25, 30, 32, 35}) {
            int answer = x.tried(240, what);
            Edges.changesNothing("tried(240, " + what + ")", y -> y.tried(240, what), answer);
        }
    }

    static void promise10_byTheDrawsThatWillCome() {
        StrongMen x = Edges.heldHouse();
        Due.law(x, "d3(1=1);t1(1=1)");
        for (int k = 0; k < 6; k++) {
            int sag = x.tried(1, 0);
            int again = x.tried(1, 0);
            is("the same again", again, sag);
            is("as it comes", x.hours(1), sag);
        }
    }

    static void promise10_sneezesAreThoseOfDraws() {
        StrongMen x = Edges.heldHouse();
        Due.law(x, "t99(m=0);x(m=1);d10(1=1)");
        is("sag", x.tried(1, 0), 4);
        is("sneezes of c and d", x.tried(1, 1), 2);
        Due.roster(x, 0, 3, ".");
        is("nobody does not sneeze", x.tried(1, 1), 1);
        is("corners' hours held by nobody", x.tried(1, 2), 1);
    }

    static void promise10_whatFellInThem() {
        StrongMen x = houses(1, 1);
        x.hours(3);
        is("both have fallen", x.count(3), 3);
        is("none falls in them", x.tried(240, 3), 0);
        x.house(1, 1, 0);
        is("not in two", x.tried(2, 3), 0);
        is("one in three", x.tried(3, 3), 1);
        is("one in 240", x.tried(240, 3), 1);
        is("nine corners' hours held by nobody", x.tried(240, 2), 9);
        is("sag of the fallen one", x.tried(240, 30), 9);
        is("sag of the other", x.tried(240, 31), 9);
        is("by how much all sag is more", x.tried(240, 0), 9);
    }

    // ---- promise 16 ----

    static void promise16_nIs1To240() {
        for (int n : new int[] {0, -1, 241, LOW, HIGH}) {
            Edges.refused("stands(0, " + n + ")", x -> x.stands(0, n), -1);
            Edges.refused("stands(2, " + n + ") of a fallen one", x -> x.stands(2, n), -1);
        }
    }

    static void promise16_aToldHouse() {
        for (int i : new int[] {-1, 1, 3, 4, 6, LOW, HIGH}) {
            Edges.refused("stands(" + i + ", 1)", x -> x.stands(i, 1), -1);
        }
    }

    static void promise16_fallenNowIs0() {
        Edges.changesNothing("stands(2, 1)", x -> x.stands(2, 1), 0);
        Edges.changesNothing("stands(2, 240)", x -> x.stands(2, 240), 0);
    }

    static void promise16_behindHowManyHours() {
        StrongMen x = houses(1);
        is("stands(0, 3)", x.stands(0, 3), 3);
        is("stands(0, 2)", x.stands(0, 2), -2);
        is("stands(0, 240)", x.stands(0, 240), 3);
        x.hours(2);
        is("stands(0, 1)", x.stands(0, 1), 1);
        x.hours(1);
        is("stands(0, 1) when it has fallen", x.stands(0, 1), 0);
    }

    static void promise16_theLastOf240Hours() {
        StrongMen x = Edges.heldHouse();
        Due.roster(x, 0, 0, "9a9a5a.3a");
        is("in the 240th", x.stands(0, 240), 240);
        is("not in 239", x.stands(0, 239), -2);
        Due.roster(x, 0, 0, "9a9a6a.2a");
        is("in the 241st", x.stands(0, 240), -2);
        x.hours(1);
        is("an hour later it is the 240th", x.stands(0, 240), 240);
    }

    static void promise16_nothingIsChanged() {
        for (int i : new int[] {0, 5}) {
            int answer = Edges.street().stands(i, 240);
            Edges.changesNothing("stands(" + i + ", 240)", x -> x.stands(i, 240), answer);
        }
    }

    // ---- promise 17 ----

    static void promise17_nIs1To240() {
        for (int n : new int[] {0, -1, 241, LOW, HIGH}) {
            Edges.refused("fallsFirst(" + n + ")", x -> x.fallsFirst(n), -1);
        }
        StrongMen x = Edges.heldHouse();
        Due.roster(x, 0, 0, "9a9a5a.3a");
        is("in the 240th", x.fallsFirst(240), 0);
        is("not in 239", x.fallsFirst(239), -2);
        Due.roster(x, 0, 0, "9a9a6a.2a");
        is("in the 241st", x.fallsFirst(240), -2);
        StrongMen y = houses(1);
        y.hours(2);
        is("in the first", y.fallsFirst(1), 0);
    }

    static void promise17_ofOneHourTheLowest() {
        is("all six", houses(1, 2, 3, 4, 5, 6).fallsFirst(240), 0);
        StrongMen x = new StrongMen();
        x.house(5, 1, 0);
        x.house(3, 1, 0);
        is("3 and 5", x.fallsFirst(3), 3);
        is("not in two", x.fallsFirst(2), -2);
    }

    static void promise17_everyHouse() {
        for (int i = 0; i < 6; i++) {
            StrongMen x = new StrongMen();
            x.house(i, 1, 0);
            is("house " + i + " in the third", x.fallsFirst(3), i);
            is("house " + i + " not in the second", x.fallsFirst(2), -2);
        }
    }

    static void promise17_theFirstNotTheLowest() {
        StrongMen x = houses(1, 1);
        x.man(0, 1);
        Due.roster(x, 0, 0, "a");
        Due.roster(x, 0, 1, "a");
        is("both in the third", x.fallsFirst(240), 0);
        x.man(1, 1);
        Due.roster(x, 0, 1, "b");
        is("1 in the third, 0 in the fifth", x.fallsFirst(240), 1);
    }

    static void promise17_noneIsNobody() {
        is("no houses", new StrongMen().fallsFirst(240), -2);
        is("a held one", Edges.heldHouse().fallsFirst(240), -2);
        StrongMen x = houses(1);
        x.hours(3);
        is("a fallen one does not fall", x.fallsFirst(240), -2);
    }

    static void promise17_nothingIsChanged() {
        int answer = Edges.street().fallsFirst(240);
        Edges.changesNothing("fallsFirst(240)", x -> x.fallsFirst(240), answer);
    }
}
