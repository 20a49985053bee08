import java.lang.management.ManagementFactory;

/** All calls live in one room: an object makes its rows once, and calls make nothing. */
public final class RoomTest {
    private static final Due DUE = new Due();
    private static final com.sun.management.ThreadMXBean THREADS =
        (com.sun.management.ThreadMXBean) ManagementFactory.getThreadMXBean();
    /** Some 6,000 elements of four bytes, with what the machine puts in front of rows. */
    private static final long MOST_FOR_AN_OBJECT = 24_000;
    /** What the machine itself may make while it is measured, for hundreds of calls together. */
    private static final long MOST_FOR_CALLS = 20_000;
    private static final int CALLS = 400;

    public static void main(String[] args) {
        for (int round = 0; round < 3; round++) {
            calls(full());
        }
        long before = made();
        StrongMen x = new StrongMen();
        long object = made() - before;
        DUE.is("an object takes " + object + " bytes; too many", object > MOST_FOR_AN_OBJECT, false);
        DUE.is("it is there", x.count(8), 1);
        StrongMen full = full();
        before = made();
        calls(full);
        long calls = made() - before;
        DUE.is("the calls took " + calls + " bytes; too many", calls > MOST_FOR_CALLS, false);
        DUE.end("RoomTest");
    }

    private static long made() {
        return THREADS.getThreadAllocatedBytes(Thread.currentThread().getId());
    }

    private static StrongMen full() {
        StrongMen x = new StrongMen();
        for (int i = 0; i < 6; i++) {
            x.house(i, 1 + i, 10 * i);
        }
        for (int t = 0; t < 24; t++) {
            x.thing(t, t / 12, t % 9, t / 3, 5 + t);
        }
        for (int m = 0; m < 16; m++) {
            x.man(m, 99 - m);
        }
        for (int c = 0; c < 24; c++) {
            x.feed('a' + c % 16 << 24 | 'b' << 16, 0, 0, 0, 0);
            x.roster(c / 4, c % 4, 2);
        }
        return x;
    }

    private static void calls(StrongMen x) {
        int law = 't' << 24 | '1' << 16 | '(' << 8 | '1';
        int end = '=' << 24 | '1' << 16 | ')' << 8;
        for (int k = 0; k < CALLS; k++) {
            x.feed(law, end, 0, 0, 0);
            x.law(7);
            x.feed('0' << 24 | '>' << 16 | '1' << 8 | '1', 0, 0, 0, 0);
            x.orders(4);
            x.feed('9' << 24 | '(' << 16 | 'a' << 8 | ')', 0, 0, 0, 0);
            x.roster(0, 0, 4);
            x.feed(1, 2, 3, 4, 5);
            x.twoFelt(0, 5, 6, 0);
            x.feed(1, 2, 3, 4, 5);
            x.felt(0, 5, 0);
            x.feed(1, 2, 3, 4, 5);
            x.bread(12);
            x.feed(0x01020304, 0x05060708, 3, 4, 5);
            x.beams(8);
            x.tried(10, 0);
            x.hours(1);
            x.bricks(16, 6);
            x.strike(3, 0);
            x.fewest(0);
            x.go(0, 0);
            x.stand(0, 15, 4);
            x.bed(0, 9, 0);
            x.keep();
            x.undo();
        }
    }
}
