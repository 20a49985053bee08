import java.lang.reflect.Method;
import java.util.ArrayList;
import java.util.List;
import java.util.function.Supplier;

/**
 * What the tests of the document's boundary sentences share: a street with something of everything, a picture
 * of all that other calls show of a street, and calls that must leave that picture as it was.
 */
final class Edges {
    static final int LOW = Integer.MIN_VALUE;
    static final int HIGH = Integer.MAX_VALUE;
    /** Behind the last byte of a text that stands on the tape of street(). */
    static final int ON_TAPE = 20;
    private static final String TAPE = "t7(m<3);y2(1=1)";
    private static final Due DUE = new Due();
    private static String sentence = "";

    /** A call of the program; a boolean counts 1 or 0. */
    interface Call {
        long on(StrongMen x);
    }

    private Edges() { }

    static void begin(Method method) {
        sentence = method.getName();
    }

    static void end(String name) {
        DUE.end(name);
    }

    static void is(String call, long got, long want) {
        DUE.is(sentence + ": " + call, got, want);
    }

    static void is(String call, boolean got, boolean want) {
        DUE.is(sentence + ": " + call, got, want);
    }

    static long yes(boolean answer) {
        return answer ? 1 : 0;
    }

    /** House 0 of one storey, with a, b, c, d of strength 50 at its corners, all day. */
    static StrongMen heldHouse() {
        StrongMen x = new StrongMen();
        x.house(0, 1, 10);
        for (int m = 0; m < 4; m++) {
            x.man(m, 50);
            Due.roster(x, 0, m, String.valueOf((char) ('a' + m)));
        }
        return x;
    }

    static String times(int n, String part, String between) {
        return n < 1 ? "" : part + (between + part).repeat(n - 1);
    }

    static int drawn(int x) {
        return (25173 * x + 13849) % 65536;
    }

    /**
     * Houses 0, 2 and 5 are told, 2 has fallen; things 0, 7, 23; men a, b, c, p, tired unlike one another; a law,
     * rosters (one of a house that is not told), a street that was kept an hour ago, and a law on the tape.
     */
    static StrongMen street() {
        StrongMen x = streetWithoutTape();
        Due.feed(x, TAPE);
        return x;
    }

    static StrongMen streetWithoutTape() {
        StrongMen x = new StrongMen();
        x.house(0, 2, 10);
        x.house(2, 1, 14);
        x.house(5, 9, 99);
        x.thing(0, 0, 0, 0, 10);
        x.thing(7, 2, 8, 3, 99);
        x.thing(23, 5, 4, 8, 1);
        x.man(0, 50);
        x.man(1, 99);
        x.man(2, 1);
        x.man(15, 30);
        Due.roster(x, 0, 0, "a");
        Due.roster(x, 0, 1, "2b.b");
        Due.roster(x, 0, 2, "2(c.)");
        Due.roster(x, 5, 0, "p");
        Due.roster(x, 5, 1, "ca.");
        Due.roster(x, 3, 3, "abc");
        Due.law(x, "t9(m<2);t3(1=1);y1(1=1);d2(k>1)");
        x.hours(3);
        x.house(5, 9, 99);
        x.keep();
        x.hours(1);
        return x;
    }

    /** All that other calls show of a street; those that change it come last. */
    private static List<Long> picture(StrongMen x) {
        List<Long> all = new ArrayList<>();
        counts(x, all);
        for (int i = 0; i < 6; i++) {
            for (int what = 0; what < 6; what++) {
                all.add((long) x.houseIs(i, what));
            }
            for (int c = 0; c < 4; c++) {
                all.add((long) x.load(i, c));
                all.add((long) x.duty(i, c));
                all.add((long) x.relieved(i, c, 1));
                all.add((long) x.relieved(i, c, 3));
            }
        }
        things(x, all);
        for (int m = 0; m < 16; m++) {
            for (int what = 0; what < 5; what++) {
                all.add((long) x.manIs(m, what));
            }
        }
        trials(x, all);
        all.add((long) x.law(TAPE.length()));
        trials(x, all);
        all.add(yes(x.undo()));
        counts(x, all);
        for (int i = 0; i < 6; i++) {
            all.add((long) x.houseIs(i, 2));
        }
        for (int m = 0; m < 16; m++) {
            all.add((long) x.manIs(m, 1));
        }
        return all;
    }

    private static void counts(StrongMen x, List<Long> all) {
        for (int what = 0; what < 9; what++) {
            all.add((long) x.count(what));
        }
    }

    private static void things(StrongMen x, List<Long> all) {
        for (int t = 0; t < 24; t++) {
            for (int what = 0; what < 4; what++) {
                all.add((long) x.thingIs(t, what));
            }
        }
    }

    private static void trials(StrongMen x, List<Long> all) {
        for (int what = 0; what < 4; what++) {
            all.add((long) x.tried(2, what));
        }
        for (int m = 0; m < 16; m++) {
            all.add((long) x.tried(4, 10 + m));
        }
    }

    /** Two streets look alike behind two ways to treat them. */
    private static void compare(String call, StrongMen x, StrongMen twin) {
        List<Long> shown = picture(x);
        List<Long> due = picture(twin);
        int first = 0;
        while (first < due.size() && shown.get(first).equals(due.get(first))) {
            first++;
        }
        is(call + ": how many answers of other calls are as due", first, due.size());
    }

    static void alike(String call, Call ofOne, Call ofTwin) {
        StrongMen x = street();
        StrongMen twin = street();
        ofOne.on(x);
        ofTwin.on(twin);
        compare(call, x, twin);
    }

    /** Asks a call of one street; behind it, it looks as its twin does, of which the call was not asked. */
    private static void same(String call, Supplier<StrongMen> street, Call asked, long answer, boolean takesTape) {
        StrongMen x = street.get();
        StrongMen twin = street.get();
        is(call, asked.on(x), answer);
        if (takesTape) {
            is(call + ": the tape is empty", x.count(7), 0);
            twin.check(0);
        }
        compare(call, x, twin);
    }

    /** Refused: nothing is changed, the tape stays. */
    static void refused(String call, Call asked, long answer) {
        same(call, Edges::street, asked, answer, false);
    }

    /** Refused for an empty tape. */
    static void refusedWithoutTape(String call, Call asked, long answer) {
        same(call, Edges::streetWithoutTape, asked, answer, false);
    }

    /** Answered, and nothing is changed, not even the tape. */
    static void changesNothing(String call, Call asked, long answer) {
        same(call, Edges::street, asked, answer, false);
    }

    /** Answered, and nothing is changed but the tape, which is empty then. */
    static void takesTapeAlone(String call, Call asked, long answer) {
        same(call, Edges::street, asked, answer, true);
    }

    /** A text with a fault: the tape is empty, all else is as it was. */
    static void faulty(String call, Call asked, long answer) {
        same(call, Edges::streetWithoutTape, asked, answer, true);
    }
}
