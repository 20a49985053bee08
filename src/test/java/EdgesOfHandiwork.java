import java.util.Arrays;

/** Boundary sentences of promises 26 to 28: bricks, bread, beams. */
final class EdgesOfHandiwork {
    private static final int LOW = Edges.LOW;
    private static final int HIGH = Edges.HIGH;

    private EdgesOfHandiwork() { }

    private static void is(String call, long got, long want) {
        Edges.is(call, got, want);
    }

    // ---- promise 26 ----

    static void promise26_1To16WideAnd1To6High() {
        for (int wide : new int[] {0, 17, -1, LOW, HIGH}) {
            Edges.refused("bricks(" + wide + ", 1)", x -> x.bricks(wide, 1), -1);
            Edges.refused("bricks(" + wide + ", 6)", x -> x.bricks(wide, 6), -1);
        }
        for (int high : new int[] {0, 7, -1, LOW, HIGH}) {
            Edges.refused("bricks(1, " + high + ")", x -> x.bricks(1, high), -1);
            Edges.refused("bricks(16, " + high + ")", x -> x.bricks(16, high), -1);
        }
        Edges.changesNothing("bricks(1, 1)", x -> x.bricks(1, 1), 0);
        Edges.changesNothing("bricks(16, 6)", x -> x.bricks(16, 6), walls(16, 6));
        Edges.changesNothing("bricks(16, 1)", x -> x.bricks(16, 1), 37);
        Edges.changesNothing("bricks(1, 6)", x -> x.bricks(1, 6), 0);
    }

    static void promise26_everyWall() {
        StrongMen x = new StrongMen();
        for (int wide = 1; wide <= 16; wide++) {
            for (int high = 1; high <= 6; high++) {
                is("bricks(" + wide + ", " + high + ")", x.bricks(wide, high), walls(wide, high));
            }
        }
    }

    static void promise26_theEndsAside() {
        StrongMen x = new StrongMen();
        for (int high = 1; high <= 6; high++) {
            is("2 wide", x.bricks(2, high), 1);
            is("3 wide", x.bricks(3, high), 1);
            is("4 wide, one seam", x.bricks(4, high), high == 1 ? 1 : 0);
            is("5 wide, in turn", x.bricks(5, high), 2);
        }
        is("9 wide, 3 high", x.bricks(9, 3), 8);
    }

    /** Lays brick by brick, row by row, with the seams of the row below as a row of flags. */
    private static long walls(int wide, int high) {
        return laid(wide, high, 0, new boolean[wide + 1], new boolean[wide + 1]);
    }

    private static long laid(int wide, int rows, int at, boolean[] below, boolean[] now) {
        if (at == wide) {
            return rows == 1 ? 1 : laid(wide, rows - 1, 0, now, new boolean[wide + 1]);
        }
        long sum = 0;
        for (int to = at + 2; to <= at + 3 && to <= wide; to++) {
            if (to == wide) {
                sum += laid(wide, rows, to, below, now);
            } else if (!below[to]) {
                boolean[] next = now.clone();
                next[to] = true;
                sum += laid(wide, rows, to, below, next);
            }
        }
        return sum;
    }

    // ---- promise 27 ----

    static void promise27_nIs1To12() {
        for (int n : new int[] {0, 13, -1, 20, LOW, HIGH}) {
            Edges.refused("bread(" + n + ")", x -> x.bread(n), -1);
        }
        Edges.takesTapeAlone("bread(1)", x -> x.bread(1), 0);
        int answer = Edges.street().bread(12);
        Edges.takesTapeAlone("bread(12)", x -> x.bread(12), answer);
    }

    static void promise27_theTapeHasNotSoMany() {
        Edges.refusedWithoutTape("bread(1) of none", x -> x.bread(1), -1);
        Edges.refusedWithoutTape("bread(12) of none", x -> x.bread(12), -1);
    }

    private static void bread(int want, int... loaves) {
        StrongMen x = new StrongMen();
        is("bread of " + Arrays.toString(loaves), Due.bread(x, loaves), want);
        is("the tape", x.count(7), 0);
    }

    static void promise27_loavesAre0To255() {
        bread(0, 0);
        bread(0, 255);
        bread(0, 0, 0);
        bread(0, 255, 255);
        bread(127, 255, 0);
        bread(128, 0, 255);
        bread(0, 255, 255, 255, 255, 255, 255, 255, 255, 255, 255, 255, 255);
        bread(0, 0, 0, 0, 0, 0, 0, 0, 0, 0, 0, 0, 0);
        bread(127 * 36, 255, 255, 255, 255, 255, 255, 0, 0, 0, 0, 0, 0);
    }

    static void promise27_whatIsLeftOverToTheFirstOnes() {
        bread(0, 1, 0);
        bread(1, 0, 1);
        bread(0, 3, 2);
        bread(1, 2, 3);
        bread(0, 1, 1, 0);
        bread(1, 1, 0, 1);
        bread(2, 0, 1, 1);
        bread(0, 1, 0, 0);
        bread(11, 0, 0, 0, 0, 0, 0, 0, 0, 0, 0, 0, 1);
        bread(0, 1, 1, 1, 1, 1, 1, 1, 1, 1, 1, 1, 0);
        bread(11, 0, 1, 1, 1, 1, 1, 1, 1, 1, 1, 1, 1);
    }

    static void promise27_behindNIsNotCounted() {
        StrongMen x = new StrongMen();
        Due.feed(x, 4, 0, 255, 255, 255);
        is("two of twenty", x.bread(2), 2);
    }

    // ---- promise 28 ----

    static void promise28_nIs1To8() {
        for (int n : new int[] {0, 9, -1, 20, LOW, HIGH}) {
            Edges.refused("beams(" + n + ")", x -> x.beams(n), -1);
        }
        Edges.takesTapeAlone("beams(1): t is 116", x -> x.beams(1), -2);
        Edges.takesTapeAlone("beams(8)", x -> x.beams(8), -2);
    }

    static void promise28_theTapeHasNotSoMany() {
        Edges.refusedWithoutTape("beams(1) of none", x -> x.beams(1), -1);
        Edges.refusedWithoutTape("beams(8) of none", x -> x.beams(8), -1);
    }

    private static void beams(int want, int... pieces) {
        StrongMen x = new StrongMen();
        is("beams of " + Arrays.toString(pieces), Due.beams(x, pieces), want);
        is("the tape", x.count(7), 0);
    }

    static void promise28_piecesAre1To99() {
        beams(0, 1);
        beams(0, 99);
        beams(-2, 0);
        beams(-2, 100);
        beams(-2, 255);
        beams(198, 99, 99);
        beams(2, 1, 1);
        for (int k = 0; k < 8; k++) {
            for (int wrong : new int[] {0, 100, 255}) {
                int[] pieces = {1, 2, 3, 4, 5, 6, 7, 8};
                pieces[k] = wrong;
                beams(-2, pieces);
            }
        }
        beams(24 * 99, 99, 99, 99, 99, 99, 99, 99, 99);
        beams(24, 1, 1, 1, 1, 1, 1, 1, 1);
    }

    static void promise28_inTheirRow() {
        beams(6, 1, 1, 2);
        beams(21, 1, 9, 1);
        beams(400, 1, 99, 1, 99);
        beams(400, 1, 99, 99, 1);
        beams(102, 1, 2, 3, 4, 5, 6, 7, 8);
        beams(102, 8, 7, 6, 5, 4, 3, 2, 1);
    }

    static void promise28_behindNIsNotCut() {
        StrongMen x = new StrongMen();
        Due.feed(x, 5, 7, 0, 255);
        is("two of twenty", x.beams(2), 12);
    }
}
