/** Boundary sentences of promises 18 to 22: beds, who stands where, what has to go, who is felt. */
final class EdgesOfCarrying {
    private static final int LOW = Edges.LOW;
    private static final int HIGH = Edges.HIGH;

    private EdgesOfCarrying() { }

    private static void is(String call, long got, long want) {
        Edges.is(call, got, want);
    }

    private static StrongMen oneHouse() {
        StrongMen x = new StrongMen();
        x.house(0, 1, 0);
        return x;
    }

    // ---- promise 18 ----

    static void promise18_toldHousesWeightsAndWhat() {
        for (int i : new int[] {-1, 1, 3, 4, 6, LOW, HIGH}) {
            Edges.refused("bed(" + i + ", 1, 0)", x -> x.bed(i, 1, 0), -1);
        }
        for (int weight : new int[] {0, 100, -1, LOW, HIGH}) {
            Edges.refused("bed(0, " + weight + ", 0)", x -> x.bed(0, weight, 0), -1);
        }
        for (int what : new int[] {-1, 3, LOW, HIGH}) {
            Edges.refused("bed(0, 1, " + what + ")", x -> x.bed(0, 1, what), -1);
        }
        int[] due = {4, 4, 9 * 640 + 32 + 99 * 16};
        for (int what = 0; what < 3; what++) {
            int asked = what;
            Edges.changesNothing("bed(5, 99, " + what + ")", x -> x.bed(5, 99, asked), due[what]);
        }
        is("weight 1", oneHouse().bed(0, 1, 2), 656);
        is("weight 99", oneHouse().bed(0, 99, 2), 640 + 99 * 16);
        is("in a fallen house", Edges.street().bed(2, 1, 2), 640 + 99 * 40);
    }

    private static void bed(StrongMen x, int weight, int at, int y, int load) {
        is("x", x.bed(0, weight, 0), at);
        is("y", x.bed(0, weight, 1), y);
        is("the load", x.bed(0, weight, 2), load);
    }

    static void promise18_ofLikeOnesTheLowestYThenX() {
        StrongMen x = oneHouse();
        bed(x, 1, 4, 4, 656);
        x.thing(0, 0, 8, 8, 99);
        bed(x, 1, 0, 0, 640 + 99 * 64);
        x.thing(0, 0, 0, 0, 99);
        bed(x, 1, 8, 0, 640 + 99 * 64);
        x.thing(0, 0, 8, 0, 99);
        bed(x, 1, 0, 0, 640 + 99 * 64);
        x.thing(0, 0, 0, 8, 99);
        bed(x, 1, 0, 0, 640 + 99 * 64);
        x.thing(1, 0, 8, 0, 99);
        bed(x, 1, 0, 0, 640 + 99 * 64);
        x.thing(2, 0, 0, 0, 99);
        bed(x, 1, 8, 8, 640 + 99 * 64);
    }

    static void promise18_theGreatestLoadIsLeast() {
        StrongMen x = oneHouse();
        x.thing(0, 0, 0, 0, 10);
        bed(x, 10, 8, 0, 1280);
        bed(x, 11, bestX(x, 11), bestY(x, 11), best(x, 11));
        bed(x, 99, bestX(x, 99), bestY(x, 99), best(x, 99));
    }

    private static int best(StrongMen x, int weight) {
        int best = HIGH;
        for (int spot = 0; spot < 81; spot++) {
            best = Math.min(best, most(x, weight, spot));
        }
        return best;
    }

    private static int most(StrongMen x, int weight, int spot) {
        int most = 0;
        for (int c = 0; c < 4; c++) {
            int across = c % 2 == 0 ? 8 - spot % 9 : spot % 9;
            int down = c < 2 ? 8 - spot / 9 : spot / 9;
            most = Math.max(most, x.load(0, c) + weight * across * down);
        }
        return most;
    }

    private static int first(StrongMen x, int weight) {
        int spot = 0;
        while (most(x, weight, spot) != best(x, weight)) {
            spot++;
        }
        return spot;
    }

    private static int bestX(StrongMen x, int weight) {
        return first(x, weight) % 9;
    }

    private static int bestY(StrongMen x, int weight) {
        return first(x, weight) / 9;
    }

    // ---- promise 19 ----

    static void promise19_fourToldMen() {
        for (int men : new int[] {0, 1, 7, 0x8003, 0x800f, 0x1f, 0x17, 0x8087, 0x10007, 0x80000007, 0x18003, -1, LOW,
            HIGH, 0xffff}) {
            for (int what : new int[] {0, 4}) {
                Edges.refused("stand(0, " + men + ", " + what + ")", x -> x.stand(0, men, what), -1);
            }
        }
        StrongMen x = oneHouse();
        for (int m = 0; m < 16; m++) {
            x.man(m, 50);
        }
        is("a, b, c, d", x.stand(0, 0xf, 3), 3);
        is("m, n, o, p", x.stand(0, 0xf000, 0), 12);
        is("m, n, o, p", x.stand(0, 0xf000, 3), 15);
        is("a, f, k, p", x.stand(0, 0x8421, 2), 10);
    }

    static void promise19_toldHousesAndWhat() {
        for (int i : new int[] {-1, 1, 3, 4, 6, LOW, HIGH}) {
            Edges.refused("stand(" + i + ", 0x8007, 0)", x -> x.stand(i, 0x8007, 0), -1);
        }
        for (int what : new int[] {-1, 6, LOW, HIGH}) {
            Edges.refused("stand(0, 0x8007, " + what + ")", x -> x.stand(0, 0x8007, what), -1);
        }
        int[] due = {0, 1, 2, 15, 1280, 1};
        for (int what = 0; what < 6; what++) {
            int asked = what;
            Edges.changesNothing("stand(0, 0x8007, " + what + ")", x -> x.stand(0, 0x8007, asked), due[what]);
        }
    }

    private static void stand(StrongMen x, int... due) {
        for (int what = 0; what < 6; what++) {
            is("what " + what, x.stand(0, 15, what), due[what]);
        }
    }

    private static StrongMen four(int... strengths) {
        StrongMen x = oneHouse();
        for (int m = 0; m < 4; m++) {
            x.man(m, strengths[m]);
        }
        return x;
    }

    static void promise19_withoutACommonDivisor() {
        stand(four(64, 64, 64, 64), 0, 1, 2, 3, 10, 1);
        stand(four(99, 99, 99, 99), 0, 1, 2, 3, 640, 99);
        stand(four(96, 96, 96, 96), 0, 1, 2, 3, 20, 3);
        stand(four(1, 1, 1, 1), 0, 1, 2, 3, 640, 1);
        stand(four(98, 98, 98, 98), 0, 1, 2, 3, 320, 49);
        StrongMen x = four(99, 99, 99, 99);
        x.house(0, 9, 0);
        stand(x, 0, 1, 2, 3, 640, 11);
    }

    static void promise19_ofLikeOnesTheLeastRow() {
        StrongMen x = four(50, 50, 50, 50);
        stand(x, 0, 1, 2, 3, 64, 5);
        x.thing(0, 0, 8, 8, 50);
        stand(x, 0, 1, 2, 3, 384, 5);
        x.man(0, 99);
        x.man(3, 20);
        stand(x, 1, 2, 3, 0, 1280, 33);
        x.man(0, 50);
        x.man(3, 99);
        stand(x, 0, 1, 2, 3, 1280, 33);
    }

    /** Strengths that go with the loads: any other row would make one of them carry more than his share. */
    static void promise19_everyRow() {
        for (int order = 0; order < 256; order++) {
            int[] at = {order >> 6, order >> 4 & 3, order >> 2 & 3, order & 3};
            if ((1 << at[0] | 1 << at[1] | 1 << at[2] | 1 << at[3]) == 15) {
                StrongMen x = four(11, 21, 31, 41);
                for (int c = 0; c < 4; c++) {
                    x.thing(c, 0, c % 2 * 8, c / 2 * 8, 10 * at[c] + 1);
                }
                stand(x, at[0], at[1], at[2], at[3], 64, 1);
            }
        }
    }

    static void promise19_eachCornerCounts() {
        for (int c = 0; c < 4; c++) {
            StrongMen x = four(50, 99, 50, 50);
            x.thing(0, 0, c % 2 * 8, c / 2 * 8, 89);
            is("b at corner " + c, x.stand(0, 15, c), 1);
            is("6336 through 99", x.stand(0, 15, 4) * 10 + x.stand(0, 15, 5), 641);
        }
    }

    // ---- promise 20 ----

    static void promise20_toldHousesAndWhat() {
        for (int i : new int[] {-1, 1, 3, 4, 6, LOW, HIGH}) {
            Edges.refused("go(" + i + ", 0)", x -> x.go(i, 0), -1);
        }
        for (int what : new int[] {-1, 2, LOW, HIGH}) {
            Edges.refused("go(0, " + what + ")", x -> x.go(0, what), -1);
        }
        Edges.changesNothing("go(0, 0)", x -> x.go(0, 0), -2);
        Edges.changesNothing("go(5, 1)", x -> x.go(5, 1), -2);
    }

    static void promise20_noThings() {
        StrongMen x = Edges.heldHouse();
        is("nothing has to go", x.go(0, 0), 0);
        is("no bits", x.go(0, 1), 0);
        for (int m = 0; m < 4; m++) {
            x.man(m, 10);
        }
        is("640 is no more than 64 times 10", x.go(0, 0), 0);
        x.man(3, 9);
        is("it is more than 64 times 9", x.go(0, 0), -2);
    }

    static void promise20_justEnoughAndOneTooLittle() {
        for (int c = 0; c < 4; c++) {
            StrongMen x = Edges.heldHouse();
            x.thing(9, 0, c % 2 * 8, c / 2 * 8, 40);
            is("50 carry 10 and 40", x.go(0, 0) * 10 + x.go(0, 1), 0);
            x.man(c, 49);
            is("49 do not", x.go(0, 0) * 10 + x.go(0, 1), 11);
        }
    }

    static void promise20_one64thTooMuch() {
        for (int c = 0; c < 4; c++) {
            StrongMen x = Edges.heldHouse();
            x.man(c, 10);
            x.thing(9, 0, c % 2 == 0 ? 7 : 1, c < 2 ? 7 : 1, 1);
            is("the load", x.load(0, c), 641);
            is("641 is more than 640", x.go(0, 0) * 10 + x.go(0, 1), 11);
        }
    }

    static void promise20_everyHouse() {
        for (int i = 0; i < 6; i++) {
            StrongMen x = new StrongMen();
            x.house(i, 1, 0);
            for (int c = 0; c < 4; c++) {
                x.man(c, 10 + c);
                Due.roster(x, i, c, String.valueOf((char) ('a' + c)));
                x.thing(c, i, c % 2 * 8, c / 2 * 8, c);
            }
            x.thing(0, i, 8, 8, 1);
            is("thing 0 at corner 3 is one too many", x.go(i, 0) * 10 + x.go(i, 1), 11);
        }
    }

    static void promise20_nobodyIs0() {
        for (int c = 0; c < 4; c++) {
            StrongMen x = Edges.heldHouse();
            Due.roster(x, 0, c, ".a");
            is("nobody at corner " + c, x.go(0, 0), -2);
            is("nobody at corner " + c, x.go(0, 1), -2);
            x.hours(1);
            is("a at corner " + c + " by its roster", x.go(0, 0), 0);
        }
    }

    static void promise20_notEvenByAll() {
        StrongMen x = Edges.heldHouse();
        x.thing(0, 0, 8, 8, 1);
        x.man(0, 9);
        is("how many", x.go(0, 0), -2);
        is("which", x.go(0, 1), -2);
        x.man(0, 10);
        is("how many", x.go(0, 0), 0);
    }

    static void promise20_twelveThingsAreNotTooMany() {
        StrongMen x = Edges.heldHouse();
        for (int m = 0; m < 4; m++) {
            x.man(m, 10);
        }
        x.house(1, 1, 0);
        for (int k = 0; k < 12; k++) {
            x.thing(2 * k, 0, 4, 4, 99);
            is("how many of " + (k + 1), x.go(0, 0), k + 1);
            is("which of " + (k + 1), x.go(0, 1), (2 << k) - 1);
        }
        x.thing(1, 1, 4, 4, 99);
        is("one of another house", x.go(0, 0), 12);
        x.thing(1, 0, 4, 4, 99);
        is("thirteen", x.go(0, 0), -3);
        is("thirteen", x.go(0, 1), -3);
        x.man(0, 1);
        is("thirteen, and not even by all", x.go(0, 0), -3);
        is("thirteen, no such what", x.go(0, 2), -1);
        x.man(0, 10);
        Due.orders(x, "1!");
        is("twelve again", x.go(0, 0), 12);
    }

    static void promise20_ofLikeOnesTheLeastBits() {
        StrongMen x = Edges.heldHouse();
        x.man(0, 15);
        x.thing(0, 0, 0, 0, 5);
        x.thing(1, 0, 0, 0, 5);
        x.thing(2, 0, 0, 0, 10);
        is("the heavy one and the lower of the light ones", x.go(0, 0) * 10 + x.go(0, 1), 25);
        Due.orders(x, "0!;1!;2!");
        x.man(0, 20);
        for (int t : new int[] {3, 8, 15, 23}) {
            x.thing(t, 0, 0, 0, 5);
        }
        is("two of four", x.go(0, 0), 2);
        is("the two lowest", x.go(0, 1), 3);
        x.thing(23, 0, 0, 0, 10);
        is("23 and another: 3 + 8 + 15 are 15, one too many", x.go(0, 0), 2);
        is("two of 5, 5, 5, 10 that leave 10 at most", x.go(0, 1), 9);
        x.man(0, 25);
        is("one is enough", x.go(0, 0), 1);
        is("the heavy one", x.go(0, 1), 8);
        x.thing(3, 0, 0, 0, 10);
        x.man(0, 30);
        is("of two heavy ones the lower", x.go(0, 1), 1);
        x.thing(3, 0, 8, 0, 10);
        is("one at another corner does not weigh here", x.go(0, 1), 0);
    }

    static void promise20_nothingIsLeftOfAnotherHouse() {
        StrongMen x = Edges.heldHouse();
        x.house(1, 1, 0);
        for (int t = 1; t <= 12; t++) {
            x.thing(t, 1, 0, 0, 99);
        }
        x.man(0, 9);
        x.thing(0, 0, 0, 0, 1);
        is("house 1", x.go(1, 0), -2);
        is("house 0", x.go(0, 0), -2);
        is("house 0", x.go(0, 1), -2);
    }

    static void promise20_theFewestNotTheLeastBits() {
        StrongMen x = Edges.heldHouse();
        x.man(0, 20);
        x.thing(0, 0, 0, 0, 1);
        x.thing(1, 0, 0, 0, 1);
        x.thing(2, 0, 0, 0, 10);
        is("one of 10, not two of 1", x.go(0, 0) * 10 + x.go(0, 1), 14);
    }

    // ---- promise 21 ----

    static void promise21_toldHousesWeightsAndWhat() {
        for (int i : new int[] {-1, 1, 3, 4, 6, LOW, HIGH}) {
            Edges.refused("felt(" + i + ", 1, 0)", x -> x.felt(i, 1, 0), -1);
        }
        for (int weight : new int[] {0, 100, -1, LOW, HIGH}) {
            Edges.refused("felt(0, " + weight + ", 0)", x -> x.felt(0, weight, 0), -1);
        }
        for (int what : new int[] {-1, 3, LOW, HIGH}) {
            Edges.refused("felt(0, 1, " + what + ")", x -> x.felt(0, 1, what), -1);
        }
        Edges.takesTapeAlone("felt(0, 1, 0)", x -> x.felt(0, 1, 0), 0);
        Edges.takesTapeAlone("felt(2, 99, 1)", x -> x.felt(2, 99, 1), -2);
        Edges.takesTapeAlone("felt(5, 99, 2)", x -> x.felt(5, 99, 2), -2);
    }

    static void promise21_theTapeHasNotSoMany() {
        for (int what = 0; what < 3; what++) {
            int asked = what;
            Edges.refusedWithoutTape("felt(0, 1, " + what + ")", x -> x.felt(0, 1, asked), -1);
        }
        StrongMen x = oneHouse();
        x.feed(704, 640, 640, 640, 99);
        x.feed(1, 2, 3, 4, 5);
        is("the first 16 of 40", x.felt(0, 1, 0), 1);
        is("empty then", x.count(7), 0);
    }

    private static int[] loads(int base, int weight, int at, int y) {
        return new int[] {base + weight * (8 - at) * (8 - y), base + weight * at * (8 - y), base + weight * (8 - at) * y,
            base + weight * at * y};
    }

    static void promise21_everySpotWithTheLeastAndTheMost() {
        StrongMen x = oneHouse();
        for (int weight : new int[] {1, 99}) {
            for (int spot = 0; spot < 81; spot++) {
                int[] loads = loads(640, weight, spot % 9, spot / 9);
                is("how many", Due.felt(x, 0, weight, 0, loads), 1);
                is("x", Due.felt(x, 0, weight, 1, loads), spot % 9);
                is("y", Due.felt(x, 0, weight, 2, loads), spot / 9);
                is("another weight", Due.felt(x, 0, weight == 1 ? 2 : 98, 0, loads), 0);
            }
        }
    }

    static void promise21_nowhere() {
        StrongMen x = oneHouse();
        for (int c = 0; c < 4; c++) {
            for (int off : new int[] {1, -1, 64, -64, 1 << 24, LOW}) {
                int[] loads = loads(640, 3, 2, 5);
                loads[c] += off;
                is("how many", Due.felt(x, 0, 3, 0, loads), 0);
                is("x", Due.felt(x, 0, 3, 1, loads), -2);
                is("y", Due.felt(x, 0, 3, 2, loads), -2);
            }
        }
        is("nobody is in it", Due.felt(x, 0, 1, 0, 640, 640, 640, 640), 0);
        is("one outside, at x 9", Due.felt(x, 0, 1, 0, 632, 712, 640, 640), 0);
        is("one outside, at x -1", Due.felt(x, 0, 1, 0, 712, 632, 640, 640), 0);
        is("one outside, at y 9", Due.felt(x, 0, 1, 0, 632, 640, 712, 640), 0);
        is("one outside, at y -1", Due.felt(x, 0, 1, 0, 712, 640, 632, 640), 0);
        is("all the least", Due.felt(x, 0, 1, 0, LOW, LOW, LOW, LOW), 0);
        is("all the most", Due.felt(x, 0, 99, 0, HIGH, HIGH, HIGH, HIGH), 0);
        is("all -1", Due.felt(x, 0, 99, 0, -1, -1, -1, -1), 0);
    }

    static void promise21_besidesWhatIsInIt() {
        StrongMen x = oneHouse();
        x.house(0, 9, 0);
        for (int t = 0; t < 24; t++) {
            x.thing(t, 0, 8, 8, 99);
        }
        int[] loads = loads(5760, 5, 0, 8);
        loads[3] += 24 * 99 * 64;
        is("how many", Due.felt(x, 0, 5, 0, loads), 1);
        is("x", Due.felt(x, 0, 5, 1, loads), 0);
        is("y", Due.felt(x, 0, 5, 2, loads), 8);
    }

    // ---- promise 22 ----

    static void promise22_toldHousesWeightsAndWhat() {
        for (int i : new int[] {-1, 1, 3, 4, 6, LOW, HIGH}) {
            Edges.refused("twoFelt(" + i + ", 1, 1, 0)", x -> x.twoFelt(i, 1, 1, 0), -1);
        }
        for (int weight : new int[] {0, 100, -1, LOW, HIGH}) {
            Edges.refused("twoFelt(0, " + weight + ", 1, 0)", x -> x.twoFelt(0, weight, 1, 0), -1);
            Edges.refused("twoFelt(0, 1, " + weight + ", 0)", x -> x.twoFelt(0, 1, weight, 0), -1);
        }
        for (int what : new int[] {-1, 3, LOW, HIGH}) {
            Edges.refused("twoFelt(0, 1, 1, " + what + ")", x -> x.twoFelt(0, 1, 1, what), -1);
        }
        Edges.takesTapeAlone("twoFelt(0, 1, 99, 0)", x -> x.twoFelt(0, 1, 99, 0), 0);
        Edges.takesTapeAlone("twoFelt(2, 99, 1, 1)", x -> x.twoFelt(2, 99, 1, 1), -2);
        Edges.takesTapeAlone("twoFelt(5, 99, 99, 2)", x -> x.twoFelt(5, 99, 99, 2), -2);
    }

    static void promise22_theTapeHasNotSoMany() {
        for (int what = 0; what < 3; what++) {
            int asked = what;
            Edges.refusedWithoutTape("twoFelt(0, 1, 1, " + what + ")", x -> x.twoFelt(0, 1, 1, asked), -1);
        }
        StrongMen x = oneHouse();
        x.feed(704, 640, 640, 704, 99);
        x.feed(1, 2, 3, 4, 5);
        is("the first 16 of 40", x.twoFelt(0, 1, 1, 0), 2);
        is("empty then", x.count(7), 0);
    }

    private static void two(int weight, int other, int one, int two, int ways, int first) {
        StrongMen x = oneHouse();
        int[] loads = loads(640, weight, one % 9, one / 9);
        int[] more = loads(0, other, two % 9, two / 9);
        for (int c = 0; c < 4; c++) {
            loads[c] += more[c];
        }
        is("ways", Due.twoFelt(x, 0, weight, other, 0, loads), ways);
        is("x", Due.twoFelt(x, 0, weight, other, 1, loads), first % 9);
        is("y", Due.twoFelt(x, 0, weight, other, 2, loads), first / 9);
    }

    static void promise22_twoAlikeCountTwiceAtUnlikeSpots() {
        two(5, 5, 0, 80, 2, 0);
        two(5, 5, 80, 0, 2, 0);
        two(5, 5, 8, 72, 2, 8);
        two(1, 1, 0, 1, 2, 0);
        two(99, 99, 80, 79, 2, 79);
    }

    static void promise22_twoAlikeAtOneSpotCountOnce() {
        two(5, 5, 0, 0, 1, 0);
        two(1, 1, 80, 80, 1, 80);
        two(99, 99, 8, 8, 1, 8);
        two(99, 99, 72, 72, 1, 72);
    }

    static void promise22_theSpotOfTheFirstOne() {
        two(4, 5, 0, 80, 1, 0);
        two(5, 4, 0, 80, 1, 0);
        two(4, 5, 80, 0, 1, 80);
        two(1, 99, 8, 72, 1, 8);
        two(99, 1, 72, 8, 1, 72);
    }

    /** Two in a row of the first corners: 8 and 0 weigh as 7 and 1 do, and so on; the first is the lowest. */
    static void promise22_theFirstOfManyWays() {
        two(1, 1, 4, 4, 9, 0);
        two(1, 1, 4 * 9, 4 * 9, 9, 0);
        two(1, 1, 8, 7, 2, 7);
        two(1, 1, 6, 8, 3, 6);
        two(2, 1, 4, 4, 5, 2);
    }

    static void promise22_nowhere() {
        StrongMen x = oneHouse();
        is("ways", Due.twoFelt(x, 0, 1, 1, 0, 640, 640, 640, 640), 0);
        is("x", Due.twoFelt(x, 0, 1, 1, 1, 640, 640, 640, 640), -2);
        is("y", Due.twoFelt(x, 0, 1, 1, 2, 640, 640, 640, 640), -2);
        is("one alone", Due.twoFelt(x, 0, 1, 1, 0, 704, 640, 640, 640), 0);
        is("one too heavy", Due.twoFelt(x, 0, 1, 1, 0, 704, 640, 640, 705), 0);
        is("the least", Due.twoFelt(x, 0, 99, 99, 1, LOW, LOW, LOW, LOW), -2);
        is("the most", Due.twoFelt(x, 0, 99, 99, 2, HIGH, HIGH, HIGH, HIGH), -2);
    }
}
