import java.util.ArrayList;
import java.util.List;
import java.util.Random;

/** Random runs of calls, each answer held against the model's. */
public final class ModelTest {
    private static final int RUNS = 1200;
    private static final int CALLS = 250;
    private static final int SHOWN = 5;

    private final Random random;
    private final Texts texts;
    private final StrongMen program = new StrongMen();
    private final Model model = new Model();
    private final List<String> calls = new ArrayList<>();
    private boolean agrees = true;

    private ModelTest(long seed) {
        random = new Random(seed);
        texts = new Texts(random);
    }

    public static void main(String[] args) {
        int runs = args.length > 0 ? Integer.parseInt(args[0]) : RUNS;
        long from = args.length > 1 ? Long.parseLong(args[1]) : 0;
        int wrong = 0;
        long answers = 0;
        for (long seed = from; seed < from + runs && wrong < SHOWN; seed++) {
            ModelTest run = new ModelTest(seed);
            run.setUp();
            for (int k = 0; k < CALLS && run.agrees; k++) {
                run.step();
            }
            answers += run.calls.size();
            wrong += run.agrees ? 0 : 1;
        }
        System.out.println("ModelTest: " + answers + " answers, " + wrong + " runs not as due");
        if (wrong != 0) {
            System.exit(1);
        }
    }

    private void same(String call, long got, long want) {
        calls.add(call + " -> " + got);
        if (got != want && agrees) {
            agrees = false;
            System.out.println("a run that goes wrong:");
            for (String made : calls.subList(Math.max(0, calls.size() - 60), calls.size())) {
                System.out.println("  " + made);
            }
            System.out.println("  due is " + want);
        }
    }

    private void same(String call, boolean got, boolean want) {
        same(call, got ? 1 : 0, want ? 1 : 0);
    }

    private int below(int n) {
        return random.nextInt(n);
    }

    /** A number of a range, now and then just outside it or far away. */
    private int in(int least, int most) {
        switch (below(60)) {
            case 0: return least - 1;
            case 1: return most + 1;
            case 2: return random.nextInt();
            default: return least + below(most - least + 1);
        }
    }

    private void setUp() {
        for (int k = below(12); k >= 0; k--) {
            house();
        }
        for (int k = below(40); k >= 0; k--) {
            man(below(16));
        }
        for (int k = below(30); k >= 0; k--) {
            thing();
        }
        int all = 4 + below(50);
        for (int k = 0; k < all; k++) {
            roster();
        }
        law();
    }

    private void feed(String text) {
        int[] words = new int[5];
        for (int from = 0; from < text.length(); from += 20) {
            for (int k = 0; k < 20; k++) {
                int sign = from + k < text.length() ? text.charAt(from + k) : below(256);
                words[k / 4] = words[k / 4] << 8 | sign;
            }
            feed(words);
        }
    }

    private void feed(int... w) {
        same("feed(" + w[0] + ", " + w[1] + ", " + w[2] + ", " + w[3] + ", " + w[4] + ")",
            program.feed(w[0], w[1], w[2], w[3], w[4]), model.feed(w));
    }

    private void clear() {
        same("check(0)", program.check(0), model.check(0));
    }

    private void house() {
        int i = in(0, 5);
        int storeys = in(1, 9);
        int place = in(0, below(2) == 0 ? 99 : 40);
        same("house(" + i + ", " + storeys + ", " + place + ")", program.house(i, storeys, place),
            model.house(i, storeys, place));
    }

    private void thing() {
        int t = in(0, 23);
        int i = in(0, 5);
        int x = in(0, 8);
        int y = in(0, 8);
        int weight = in(1, 99);
        same("thing(" + t + ", " + i + ", " + x + ", " + y + ", " + weight + ")", program.thing(t, i, x, y, weight),
            model.thing(t, i, x, y, weight));
    }

    private void man(int m) {
        int strength = in(1, 99);
        same("man(" + m + ", " + strength + ")", program.man(m, strength), model.man(m, strength));
    }

    private void roster() {
        String text = texts.roster();
        int i = in(0, 5);
        int c = in(0, 3);
        int n = below(30) == 0 ? in(0, 41) : text.length();
        clear();
        feed(text);
        same("roster(" + i + ", " + c + ", " + n + ") " + text, program.roster(i, c, n), model.roster(i, c, n));
    }

    private void law() {
        String text = texts.law();
        int n = below(30) == 0 ? in(0, 241) : text.length();
        clear();
        feed(text);
        same("law(" + n + ") " + text, program.law(n), model.law(n));
    }

    private void orders() {
        int things = 0;
        for (int t = 0; t < 24; t++) {
            things |= model.thingIs(t, 0) >= 0 ? 1 << t : 0;
        }
        String text = texts.orders(model.count(4), things, model.count(2));
        int n = below(30) == 0 ? in(0, 121) : text.length();
        clear();
        feed(text);
        same("orders(" + n + ") " + text, program.orders(n), model.orders(n));
    }

    /** Loads as they are with one or two more in the house, or nearly so. */
    private void feelable(int i, int weight, int other) {
        int[] loads = new int[5];
        int one = below(81);
        int two = below(3) == 0 ? 80 - one : below(81);
        for (int c = 0; c < 4; c++) {
            loads[c] = model.load(i, c) + weight * portion(one, c) + other * portion(two, c);
        }
        if (below(8) == 0) {
            loads[below(4)] += below(2) == 0 ? 1 : random.nextInt();
        }
        if (below(20) != 0) {
            clear();
            feed(loads);
        }
    }

    private static int portion(int spot, int c) {
        int x = c % 2 == 0 ? 8 - spot % 9 : spot % 9;
        int y = c < 2 ? 8 - spot / 9 : spot / 9;
        return x * y;
    }

    private void felt() {
        int i = in(0, 5);
        int weight = in(1, 99);
        int what = in(0, 2);
        feelable(i, weight, 0);
        same("felt(" + i + ", " + weight + ", " + what + ")", program.felt(i, weight, what),
            model.felt(i, weight, what));
    }

    private void twoFelt() {
        int i = in(0, 5);
        int weight = in(1, below(2) == 0 ? 3 : 99);
        int other = below(2) == 0 ? weight : in(1, below(2) == 0 ? 3 : 99);
        int what = in(0, 2);
        feelable(i, weight, other);
        same("twoFelt(" + i + ", " + weight + ", " + other + ", " + what + ")",
            program.twoFelt(i, weight, other, what), model.twoFelt(i, weight, other, what));
    }

    private void numbers() {
        int n = in(0, 12);
        int most = below(2) == 0 ? 256 : 1 + below(100);
        clear();
        StringBuilder text = new StringBuilder();
        for (int k = 0; k < 12; k++) {
            text.append((char) (below(most) + (most < 256 ? below(20) > 0 ? 1 : 0 : 0)));
        }
        feed(text.toString());
        if (below(2) == 0) {
            same("bread(" + n + ")", program.bread(n), model.bread(n));
        } else {
            n = in(0, 8);
            same("beams(" + n + ")", program.beams(n), model.beams(n));
        }
    }

    private void check() {
        clear();
        StringBuilder text = new StringBuilder();
        for (int m = 0; m < 16; m++) {
            text.append((char) Math.max(0, model.manIs(m, 1)));
        }
        if (below(2) == 0) {
            text.setCharAt(below(16), (char) below(256));
        }
        feed(text.toString());
        int n = in(0, 16);
        same("check(" + n + ")", program.check(n), model.check(n));
    }

    private void step() {
        switch (below(30)) {
            case 0: house(); break;
            case 1: thing(); break;
            case 2: man(in(0, 15)); break;
            case 3: law(); break;
            case 4: roster(); break;
            case 5: orders(); break;
            case 6: felt(); break;
            case 7: twoFelt(); break;
            case 8: numbers(); break;
            case 9: check(); break;
            case 10: hours(); break;
            case 11: keeping(); break;
            case 12: feed(random.nextInt(), 0, -1, random.nextInt(), 7); break;
            case 13: trials(); break;
            case 14: day(); break;
            case 15: falling(); break;
            case 16: going(); break;
            default: asking(); break;
        }
    }

    private void hours() {
        int n = below(4) == 0 ? in(1, 240) : 1 + below(5);
        same("hours(" + n + ")", program.hours(n), model.hours(n));
    }

    private void keeping() {
        int x = in(0, 65535);
        switch (below(4)) {
            case 0: same("keep()", program.keep(), model.keep()); break;
            case 1: same("seed(" + x + ")", program.seed(x), model.seed(x)); break;
            default: same("undo()", program.undo(), model.undo()); break;
        }
    }

    private void trials() {
        int n = below(4) == 0 ? in(1, 240) : in(1, 10);
        int what = below(2) == 0 ? in(0, 3) : in(10, 36);
        int i = in(0, 5);
        same("tried(" + n + ", " + what + ")", program.tried(n, what), model.tried(n, what));
        same("stands(" + i + ", " + n + ")", program.stands(i, n), model.stands(i, n));
        same("fallsFirst(" + n + ")", program.fallsFirst(n), model.fallsFirst(n));
    }

    private void day() {
        int i = in(0, 5);
        int c = in(0, 3);
        int what = in(0, 3);
        int n = in(1, 3);
        same("relieved(" + i + ", " + c + ", " + what + ")", program.relieved(i, c, what), model.relieved(i, c, what));
        same("duty(" + i + ", " + c + ")", program.duty(i, c), model.duty(i, c));
        if (below(10) == 0) {
            what = in(0, 1);
            same("strike(" + n + ", " + what + ")", program.strike(n, what), model.strike(n, what));
        }
    }

    private void falling() {
        int i = in(0, 5);
        boolean right = below(2) == 0;
        int what = in(0, 1);
        same("knocked(" + i + ", " + right + ")", program.knocked(i, right), model.knocked(i, right));
        same("fewest(" + what + ")", program.fewest(what), model.fewest(what));
    }

    /** Strong men and light things, so that some of them can be carried. */
    private void going() {
        int i = below(6);
        same("house", program.house(i, 1 + i % 3, 50), model.house(i, 1 + i % 3, 50));
        for (int c = 0; c < 4; c++) {
            int strength = 30 + below(70);
            int m = 4 * (i % 4) + c;
            same("man", program.man(m, strength), model.man(m, strength));
            clear();
            feed("" + (char) ('a' + m));
            same("roster", program.roster(i, c, 1), model.roster(i, c, 1));
        }
        for (int t = below(24); t < 24; t += 1 + below(2)) {
            int x = below(9);
            int y = below(9);
            int weight = 1 + below(40);
            same("thing", program.thing(t, i, x, y, weight), model.thing(t, i, x, y, weight));
        }
        same("go(" + i + ", 0)", program.go(i, 0), model.go(i, 0));
        same("go(" + i + ", 1)", program.go(i, 1), model.go(i, 1));
    }

    private void asking() {
        int i = in(0, 5);
        int c = in(0, 3);
        int m = in(0, 15);
        int t = in(0, 23);
        int what = in(0, 8);
        int weight = in(1, 99);
        int men = below(20) == 0 ? random.nextInt() : four();
        int wide = in(1, 16);
        int high = in(1, 6);
        switch (below(9)) {
            case 0: same("houseIs(" + i + ", " + what + ")", program.houseIs(i, what), model.houseIs(i, what)); break;
            case 1: same("thingIs(" + t + ", " + what + ")", program.thingIs(t, what), model.thingIs(t, what)); break;
            case 2: same("manIs(" + m + ", " + what + ")", program.manIs(m, what), model.manIs(m, what)); break;
            case 3: same("load(" + i + ", " + c + ")", program.load(i, c), model.load(i, c)); break;
            case 4: same("bed(" + i + ", " + weight + ", " + what + ")", program.bed(i, weight, what % 4),
                model.bed(i, weight, what % 4)); break;
            case 5: same("stand(" + i + ", " + men + ", " + what + ")", program.stand(i, men, what),
                model.stand(i, men, what)); break;
            case 6: same("go(" + i + ", " + what % 3 + ")", program.go(i, what % 3), model.go(i, what % 3)); break;
            case 7: same("count(" + what + ")", program.count(what), model.count(what)); break;
            default:
                same("heaviest(" + what + ")", program.heaviest(what), model.heaviest(what));
                if (below(10) == 0) {
                    same("bricks(" + wide + ", " + high + ")", program.bricks(wide, high), model.bricks(wide, high));
                }
                break;
        }
    }

    /** The bits of four men, told ones if there are as many. */
    private int four() {
        int told = model.count(4);
        int bits = 0;
        for (int k = 0; k < 200 && Integer.bitCount(bits) < 4; k++) {
            int m = below(16);
            bits |= (told >> m & 1) == 1 || k > 150 ? 1 << m : 0;
        }
        return bits;
    }
}
