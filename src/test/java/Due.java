/** Counts answers that are not as due, and feeds texts to the tape. */
final class Due {
    private static final int SHOWN = 40;
    private int asked;
    private int wrong;

    void is(String call, long got, long want) {
        asked++;
        if (got != want) {
            wrong++;
            if (wrong <= SHOWN) {
                System.out.println(call + " answered " + got + ", due is " + want);
            }
        }
    }

    void is(String call, boolean got, boolean want) {
        is(call, got ? 1 : 0, want ? 1 : 0);
    }

    /** Says how it went, and ends the program with 1 if an answer was wrong. */
    void end(String name) {
        System.out.println(name + ": " + asked + " answers, " + wrong + " not as due");
        if (wrong != 0 || asked == 0) {
            System.exit(1);
        }
    }

    /** Feeds a text; behind it stand zeros up to a multiple of twenty. */
    static void feed(StrongMen x, String text) {
        int[] bytes = new int[text.length()];
        for (int k = 0; k < bytes.length; k++) {
            bytes[k] = text.charAt(k);
        }
        feed(x, bytes);
    }

    static void feed(StrongMen x, int... bytes) {
        int[] words = new int[5];
        for (int from = 0; from < bytes.length; from += 20) {
            for (int k = 0; k < 20; k++) {
                int sign = from + k < bytes.length ? bytes[from + k] : 0;
                words[k / 4] = words[k / 4] << 8 | sign & 255;
            }
            x.feed(words[0], words[1], words[2], words[3], words[4]);
        }
    }

    static int law(StrongMen x, String text) {
        feed(x, text);
        return x.law(text.length());
    }

    static int roster(StrongMen x, int i, int c, String text) {
        feed(x, text);
        return x.roster(i, c, text.length());
    }

    static int orders(StrongMen x, String text) {
        feed(x, text);
        return x.orders(text.length());
    }

    static int bread(StrongMen x, int... loaves) {
        feed(x, loaves);
        return x.bread(loaves.length);
    }

    static int beams(StrongMen x, int... pieces) {
        feed(x, pieces);
        return x.beams(pieces.length);
    }

    static int check(StrongMen x, int... tired) {
        feed(x, tired);
        return x.check(tired.length);
    }

    static int felt(StrongMen x, int i, int weight, int what, int... loads) {
        x.feed(loads[0], loads[1], loads[2], loads[3], 0);
        return x.felt(i, weight, what);
    }

    static int twoFelt(StrongMen x, int i, int weight, int other, int what, int... loads) {
        x.feed(loads[0], loads[1], loads[2], loads[3], 0);
        return x.twoFelt(i, weight, other, what);
    }
}
