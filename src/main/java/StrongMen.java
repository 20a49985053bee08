import java.util.Arrays;

/**
 * Strong men hold the walls: houses that are carried at four corners, by rosters, orders and a law
 * that come as texts on a tape. The promises that the methods keep are those of the document.
 */
public final class StrongMen {
    public static final int NONE = -1;

    /** What a call answers that is asked rightly and finds nothing: nobody, nowhere, not in these. */
    private static final int LACKING = -2;
    private static final int TOO_MANY_THINGS = -3;

    private static final int HOUSES = 6;
    private static final int CORNERS = 4;
    private static final int ALL_CORNERS = 24;
    private static final int THINGS = 24;
    private static final int MEN = 16;
    private static final int FAR_SIDE = 8;
    private static final int MOST_STOREYS = 9;
    private static final int MOST_WEIGHT = 99;
    private static final int FALLEN = 9;
    private static final int MOST_TIRED = 99;
    private static final int HOURS_A_DAY = 24;
    private static final int MOST_HOURS = 240;
    private static final int LAST_DAY = 9999;

    private static final int MOST_LAW = 240;
    private static final int MOST_ROSTER = 40;
    private static final int MOST_ORDERS = 120;
    private static final int LOADS_BYTES = 16;

    private final Tape tape;
    private final Street street;
    private final Street kept;
    private final Street trial;
    private final Rosters rosters;
    private final Duties duties;
    private final OrdersText ordersText;
    private final LawCode lawCode;
    private final LawText lawText;
    private final Watch watch;
    private final Watch trialWatch;
    private final Carrying carrying;
    private final Falling falling;
    private final Handiwork handiwork;
    private boolean hasKept;

    public StrongMen() {
        tape = new Tape();
        street = new Street();
        kept = new Street();
        trial = new Street();
        rosters = new Rosters();
        duties = new Duties(street, rosters);
        ordersText = new OrdersText(tape, trial);
        lawCode = new LawCode();
        lawText = new LawText(tape, new LawCode());
        Judge judge = new Judge(lawCode);
        watch = new Watch(street, rosters, judge);
        trialWatch = new Watch(trial, rosters, judge);
        carrying = new Carrying(street, duties);
        falling = new Falling(street);
        handiwork = new Handiwork();
    }

    public boolean house(int i, int storeys, int place) {
        if (!within(i, 0, HOUSES - 1) || !within(storeys, 1, MOST_STOREYS) || !within(place, 0, 99)) {
            return false;
        }
        street.storeys[i] = storeys;
        street.places[i] = place;
        street.sags[i] = 0;
        return true;
    }

    public boolean thing(int t, int i, int x, int y, int weight) {
        if (!within(t, 0, THINGS - 1) || !street.houseTold(i) || !within(weight, 1, MOST_WEIGHT)) {
            return false;
        }
        if (!within(x, 0, FAR_SIDE) || !within(y, 0, FAR_SIDE)) {
            return false;
        }
        street.homes[t] = i;
        street.xs[t] = x;
        street.ys[t] = y;
        street.weights[t] = weight;
        return true;
    }

    public boolean man(int m, int strength) {
        if (!within(m, 0, MEN - 1) || !within(strength, 1, 99)) {
            return false;
        }
        street.strengths[m] = strength;
        street.tired[m] = 0;
        return true;
    }

    public int feed(int a, int b, int c, int d, int e) {
        if (!tape.hasRoom()) {
            return NONE;
        }
        tape.put(a);
        tape.put(b);
        tape.put(c);
        tape.put(d);
        tape.put(e);
        return tape.size;
    }

    public int law(int n) {
        if (!within(n, 1, MOST_LAW) || !tape.offers(n)) {
            return NONE;
        }
        tape.cut(n);
        int answer = lawText.read();
        tape.cut(0);
        if (answer > 0) {
            lawCode.copy(lawText.draft);
        }
        return answer;
    }

    public int roster(int i, int c, int n) {
        if (!within(i, 0, HOUSES - 1) || !within(c, 0, CORNERS - 1)) {
            return NONE;
        }
        if (!within(n, 1, MOST_ROSTER) || !tape.offers(n)) {
            return NONE;
        }
        tape.cut(n);
        int answer = rosters.read(tape);
        tape.cut(0);
        if (answer > 0) {
            rosters.post(i * CORNERS + c);
        }
        return answer;
    }

    public int orders(int n) {
        if (!within(n, 1, MOST_ORDERS) || !tape.offers(n)) {
            return NONE;
        }
        tape.cut(n);
        trial.copy(street);
        int answer = ordersText.read();
        tape.cut(0);
        if (answer > 0) {
            street.copy(trial);
        }
        return answer;
    }

    public int hours(int n) {
        if (!within(n, 1, MOST_HOURS)) {
            return NONE;
        }
        watch.begin();
        for (int hour = 0; hour < n; hour++) {
            watch.pass();
        }
        return watch.sagged;
    }

    public int tried(int n, int what) {
        boolean ofMan = street.manTold(what - 10);
        boolean ofHouse = street.houseTold(what - 30);
        if (!within(n, 1, MOST_HOURS) || !within(what, 0, 3) && !ofMan && !ofHouse) {
            return NONE;
        }
        beginTrial();
        for (int hour = 0; hour < n; hour++) {
            trialWatch.pass();
        }
        if (ofMan) {
            return trial.tired[what - 10];
        }
        if (ofHouse) {
            return trial.sags[what - 30];
        }
        switch (what) {
            case 0: return trialWatch.sagged;
            case 1: return trialWatch.sneezed;
            case 2: return trialWatch.unheld;
            default: return trialWatch.fell;
        }
    }

    public int houseIs(int i, int what) {
        if (!street.houseTold(i)) {
            return NONE;
        }
        switch (what) {
            case 0: return street.storeys[i];
            case 1: return street.places[i];
            case 2: return street.sags[i];
            case 3: return street.thingsIn(i);
            case 4: return street.unevenness(i);
            case 5: return street.weightIn(i);
            default: return NONE;
        }
    }

    public int thingIs(int t, int what) {
        if (!street.thingTold(t)) {
            return NONE;
        }
        switch (what) {
            case 0: return street.homes[t];
            case 1: return street.xs[t];
            case 2: return street.ys[t];
            case 3: return street.weights[t];
            default: return NONE;
        }
    }

    public int manIs(int m, int what) {
        if (!street.manTold(m)) {
            return NONE;
        }
        switch (what) {
            case 0: return street.strengths[m];
            case 1: return street.tired[m];
            case 2: return duties.whereIs(m, street.time());
            case 3: return duties.hoursTwice(m);
            case 4: return duties.pence(m);
            default: return NONE;
        }
    }

    public int load(int i, int c) {
        if (!street.houseTold(i) || !within(c, 0, CORNERS - 1)) {
            return NONE;
        }
        return street.loadOf(i, c);
    }

    public int duty(int i, int c) {
        if (!street.houseTold(i) || !within(c, 0, CORNERS - 1)) {
            return NONE;
        }
        return duties.whoHas(i * CORNERS + c, street.time());
    }

    public int stands(int i, int n) {
        if (!street.houseTold(i) || !within(n, 1, MOST_HOURS)) {
            return NONE;
        }
        if (!street.isUp(i)) {
            return 0;
        }
        beginTrial();
        for (int hour = 1; hour <= n; hour++) {
            trialWatch.pass();
            if (!trial.isUp(i)) {
                return hour;
            }
        }
        return LACKING;
    }

    public int fallsFirst(int n) {
        if (!within(n, 1, MOST_HOURS)) {
            return NONE;
        }
        beginTrial();
        for (int hour = 0; hour < n && trialWatch.fell == 0; hour++) {
            trialWatch.pass();
        }
        for (int i = 0; i < HOUSES; i++) {
            if (street.isUp(i) && !trial.isUp(i)) {
                return i;
            }
        }
        return LACKING;
    }

    public int bed(int i, int weight, int what) {
        if (!street.houseTold(i) || !within(weight, 1, MOST_WEIGHT) || !within(what, 0, 2)) {
            return NONE;
        }
        carrying.findBed(i, weight);
        switch (what) {
            case 0: return carrying.bedX;
            case 1: return carrying.bedY;
            default: return carrying.bedLoad;
        }
    }

    public int stand(int i, int men, int what) {
        if (!street.houseTold(i) || !within(what, 0, 5) || !street.fourTold(men)) {
            return NONE;
        }
        carrying.findRow(i, men);
        if (what < CORNERS) {
            return carrying.row[what];
        }
        int divisor = greatestDivisor(carrying.above, carrying.below);
        if (divisor <= 0) {
            return NONE;
        }
        return (what == 4 ? carrying.above : carrying.below) / divisor;
    }

    public int go(int i, int what) {
        if (!street.houseTold(i) || !within(what, 0, 1)) {
            return NONE;
        }
        int bits = carrying.leastToGo(i);
        return bits < 0 || what == 1 ? bits : Integer.bitCount(bits);
    }

    public int felt(int i, int weight, int what) {
        if (!street.houseTold(i) || !within(weight, 1, MOST_WEIGHT)) {
            return NONE;
        }
        if (!within(what, 0, 2) || !tape.offers(LOADS_BYTES)) {
            return NONE;
        }
        carrying.feel(i, tape);
        tape.cut(0);
        int spot = carrying.spotOf(weight);
        return feltAnswer(spot < 0 ? 0 : 1, spot, what);
    }

    public int twoFelt(int i, int weight, int other, int what) {
        if (!street.houseTold(i) || !within(weight, 1, MOST_WEIGHT) || !within(other, 1, MOST_WEIGHT)) {
            return NONE;
        }
        if (!within(what, 0, 2) || !tape.offers(LOADS_BYTES)) {
            return NONE;
        }
        carrying.feel(i, tape);
        tape.cut(0);
        int ways = carrying.waysOfTwo(weight, other);
        return feltAnswer(ways, carrying.firstSpot, what);
    }

    public int knocked(int i, boolean toRight) {
        return street.isUp(i) ? falling.knockedBy(i, toRight) : NONE;
    }

    public int fewest(int what) {
        if (!within(what, 0, 1)) {
            return NONE;
        }
        int bits = falling.leastPushed();
        return what == 1 ? bits : Integer.bitCount(bits);
    }

    public int strike(int n, int what) {
        if (!within(n, 1, 3) || !within(what, 0, 1)) {
            return NONE;
        }
        if (Integer.bitCount(street.menBits()) < n) {
            return LACKING;
        }
        duties.findStrikers(n);
        return what == 0 ? duties.strikeHours : duties.strikers;
    }

    public long bricks(int wide, int high) {
        if (!within(wide, 1, 16) || !within(high, 1, 6)) {
            return NONE;
        }
        return handiwork.walls(wide, high);
    }

    public int bread(int n) {
        if (!within(n, 1, 12) || !tape.offers(n)) {
            return NONE;
        }
        tape.cut(n);
        int answer = handiwork.handed(tape);
        tape.cut(0);
        return answer;
    }

    public int beams(int n) {
        if (!within(n, 1, Handiwork.PIECES) || !tape.offers(n)) {
            return NONE;
        }
        tape.cut(n);
        int answer = handiwork.cutting(tape);
        tape.cut(0);
        return answer;
    }

    public int relieved(int i, int c, int what) {
        if (!street.houseTold(i) || !within(c, 0, CORNERS - 1)) {
            return NONE;
        }
        int corner = i * CORNERS + c;
        switch (what) {
            case 0: return duties.changes(corner);
            case 1: return duties.emptyHours(corner);
            case 2: return duties.longestOnEnd(corner);
            case 3: return rosters.hoursOf(corner);
            default: return NONE;
        }
    }

    public int heaviest(int what) {
        if (!within(what, 0, 2)) {
            return NONE;
        }
        int corner = street.heaviestCorner();
        if (corner < 0) {
            return LACKING;
        }
        switch (what) {
            case 0: return corner / CORNERS;
            case 1: return corner % CORNERS;
            default: return street.loadOf(corner / CORNERS, corner % CORNERS);
        }
    }

    public boolean seed(int x) {
        if (!within(x, 0, 65535)) {
            return false;
        }
        street.x = x;
        return true;
    }

    public int keep() {
        kept.copy(street);
        hasKept = true;
        return street.day;
    }

    public boolean undo() {
        if (!hasKept) {
            return false;
        }
        street.copy(kept);
        return true;
    }

    public int check(int n) {
        if (!within(n, 0, MEN) || !tape.offers(n)) {
            return LACKING;
        }
        int answer = NONE;
        for (int m = n - 1; m >= 0; m--) {
            int tired = street.manTold(m) ? street.tired[m] : 0;
            if (tape.byteAt(m) != tired) {
                answer = m;
            }
        }
        tape.cut(0);
        return answer;
    }

    public int count(int what) {
        switch (what) {
            case 0: return street.hour;
            case 1: return street.day;
            case 2: return street.houseBits();
            case 3: return street.houseBits() & ~street.upBits();
            case 4: return street.menBits();
            case 5: return street.thingsTold();
            case 6: return lawCode.rules;
            case 7: return tape.size;
            case 8: return street.x;
            default: return NONE;
        }
    }

    private void beginTrial() {
        trial.copy(street);
        trialWatch.begin();
    }

    private static int feltAnswer(int ways, int spot, int what) {
        if (what == 0) {
            return ways;
        }
        if (spot < 0) {
            return LACKING;
        }
        return what == 1 ? spot % (FAR_SIDE + 1) : spot / (FAR_SIDE + 1);
    }

    private static boolean within(int number, int least, int most) {
        return number >= least && number <= most;
    }

    /** Euclid's way; 64 turns are more than two ints can need. */
    private static int greatestDivisor(int a, int b) {
        int divisor = a;
        int rest = b;
        for (int turn = 0; turn < 64 && rest != 0; turn++) {
            int next = divisor % rest;
            divisor = rest;
            rest = next;
        }
        return divisor;
    }

    /** A fault of a text: its number and its place in one answer. */
    private static int faultAt(int number, int place) {
        return -1000 * number - place;
    }

    private static boolean isDigit(int sign) {
        return sign >= '0' && sign <= '9';
    }

    private static boolean isMan(int sign) {
        return sign >= 'a' && sign <= 'p';
    }

    /** The bytes that were fed. A text is cut off at its end first, so that no reader runs past it. */
    private static final class Tape {
        static final int END = -1;
        private static final int MOST = 260;
        private static final int FED_AT_ONCE = 20;

        private final int[] bytes = new int[MOST];
        int size;

        boolean hasRoom() {
            return size + FED_AT_ONCE <= MOST;
        }

        void put(int word) {
            for (int shift = 24; shift >= 0; shift -= 8) {
                if (size < MOST) {
                    bytes[size] = word >>> shift & 255;
                    size++;
                }
            }
        }

        boolean offers(int n) {
            return n <= size;
        }

        void cut(int n) {
            size = Math.max(0, Math.min(size, n));
        }

        int byteAt(int place) {
            return place >= 0 && place < size ? bytes[place] : END;
        }

        int wordAt(int place) {
            int high = byteAt(place) << 24 | byteAt(place + 1) << 16;
            return high | byteAt(place + 2) << 8 | byteAt(place + 3);
        }
    }

    /** What is kept and undone. Storeys, strength and weight are 0 in what is not told. */
    private static final class Street {
        final int[] storeys = new int[HOUSES];
        final int[] places = new int[HOUSES];
        final int[] sags = new int[HOUSES];
        final int[] homes = new int[THINGS];
        final int[] xs = new int[THINGS];
        final int[] ys = new int[THINGS];
        final int[] weights = new int[THINGS];
        final int[] strengths = new int[MEN];
        final int[] tired = new int[MEN];
        int hour;
        int day;
        int x = 1;

        void copy(Street other) {
            System.arraycopy(other.storeys, 0, storeys, 0, HOUSES);
            System.arraycopy(other.places, 0, places, 0, HOUSES);
            System.arraycopy(other.sags, 0, sags, 0, HOUSES);
            System.arraycopy(other.homes, 0, homes, 0, THINGS);
            System.arraycopy(other.xs, 0, xs, 0, THINGS);
            System.arraycopy(other.ys, 0, ys, 0, THINGS);
            System.arraycopy(other.weights, 0, weights, 0, THINGS);
            System.arraycopy(other.strengths, 0, strengths, 0, MEN);
            System.arraycopy(other.tired, 0, tired, 0, MEN);
            hour = other.hour;
            day = other.day;
            x = other.x;
        }

        boolean houseTold(int i) {
            return i >= 0 && i < HOUSES && storeys[i] > 0;
        }

        boolean isUp(int i) {
            return i >= 0 && i < HOUSES && storeys[i] > 0 && sags[i] < FALLEN;
        }

        boolean manTold(int m) {
            return m >= 0 && m < MEN && strengths[m] > 0;
        }

        boolean thingTold(int t) {
            return t >= 0 && t < THINGS && weights[t] > 0;
        }

        boolean isIn(int t, int i) {
            return thingTold(t) && homes[t] == i;
        }

        boolean fourTold(int men) {
            return Integer.bitCount(men) == CORNERS && (men & ~menBits()) == 0;
        }

        int houseBits() {
            int bits = 0;
            for (int i = 0; i < HOUSES; i++) {
                bits |= houseTold(i) ? 1 << i : 0;
            }
            return bits;
        }

        int upBits() {
            int bits = 0;
            for (int i = 0; i < HOUSES; i++) {
                bits |= isUp(i) ? 1 << i : 0;
            }
            return bits;
        }

        int menBits() {
            int bits = 0;
            for (int m = 0; m < MEN; m++) {
                bits |= manTold(m) ? 1 << m : 0;
            }
            return bits;
        }

        int thingsTold() {
            int number = 0;
            for (int t = 0; t < THINGS; t++) {
                number += thingTold(t) ? 1 : 0;
            }
            return number;
        }

        int thingsIn(int i) {
            int number = 0;
            for (int t = 0; t < THINGS; t++) {
                number += isIn(t, i) ? 1 : 0;
            }
            return number;
        }

        int weightIn(int i) {
            int sum = 0;
            for (int t = 0; t < THINGS; t++) {
                sum += isIn(t, i) ? weights[t] : 0;
            }
            return sum;
        }

        /** How many 64ths of a weight at a spot a corner carries. */
        static int portion(int x, int y, int c) {
            int across = c % 2 == 0 ? FAR_SIDE - x : x;
            int down = c < 2 ? FAR_SIDE - y : y;
            return across * down;
        }

        int loadBy(int t, int c) {
            return thingTold(t) ? weights[t] * portion(xs[t], ys[t], c) : 0;
        }

        int loadOf(int i, int c) {
            if (!houseTold(i)) {
                return 0;
            }
            int sum = 640 * storeys[i];
            for (int t = 0; t < THINGS; t++) {
                sum += isIn(t, i) ? loadBy(t, c) : 0;
            }
            return sum;
        }

        int unevenness(int i) {
            int least = loadOf(i, 0);
            int most = least;
            for (int c = 1; c < CORNERS; c++) {
                int now = loadOf(i, c);
                least = Math.min(least, now);
                most = Math.max(most, now);
            }
            return most - least;
        }

        int heaviestCorner() {
            int best = NONE;
            int most = 0;
            for (int corner = 0; corner < ALL_CORNERS; corner++) {
                int now = loadOf(corner / CORNERS, corner % CORNERS);
                if (now > most) {
                    most = now;
                    best = corner;
                }
            }
            return best;
        }

        int time() {
            return day * HOURS_A_DAY + hour;
        }

        boolean isOver() {
            return day >= LAST_DAY && hour >= HOURS_A_DAY - 1;
        }

        void tick() {
            hour++;
            if (hour >= HOURS_A_DAY) {
                hour = 0;
                day++;
            }
        }

        int draw() {
            x = (25173 * x + 13849) % 65536;
            return x % 10;
        }
    }

    /** The rosters of all corners, spelt out hour by hour, and the reader of their texts. */
    private static final class Rosters {
        private static final int MOST = 48;
        private static final int DEEPEST = 2;

        private final int[] posted = new int[ALL_CORNERS * MOST];
        private final int[] lengths = new int[ALL_CORNERS];
        private final int[] draft = new int[MOST];
        private int drafted;
        private final int[] groupFirst = new int[DEEPEST];
        private final int[] groupTimes = new int[DEEPEST];
        private final int[] groupStart = new int[DEEPEST];
        private int open;

        /** How many hours the text has, or its fault. */
        int read(Tape tape) {
            drafted = 0;
            open = 0;
            int times = 0;
            for (int at = 0; at < tape.size; at++) {
                int sign = tape.byteAt(at);
                int first = times == 0 ? at : at - 1;
                int repeated = Math.max(1, times);
                int number = 0;
                int place = at;
                if (within(sign, '2', '9')) {
                    number = times == 0 ? 0 : 1;
                    times = sign - '0';
                } else if (isMan(sign) || sign == '.') {
                    number = add(sign == '.' ? LACKING : sign - 'a', repeated) ? 0 : 6;
                    place = first;
                    times = 0;
                } else if (sign == '(') {
                    number = begin(first, repeated) ? 0 : 5;
                    times = 0;
                } else if (sign == ')' && times == 0 && canEnd()) {
                    open--;
                    place = groupFirst[open];
                    number = repeat(groupStart[open], groupTimes[open]) ? 0 : 6;
                } else {
                    number = 1;
                }
                if (number != 0) {
                    return faultAt(number, place);
                }
            }
            return times != 0 || open != 0 || drafted == 0 ? faultAt(1, tape.size) : drafted;
        }

        private boolean add(int who, int times) {
            if (drafted + times > MOST) {
                return false;
            }
            for (int k = 0; k < times; k++) {
                draft[drafted] = who;
                drafted++;
            }
            return true;
        }

        private boolean begin(int first, int times) {
            if (open >= DEEPEST) {
                return false;
            }
            groupFirst[open] = first;
            groupTimes[open] = times;
            groupStart[open] = drafted;
            open++;
            return true;
        }

        private boolean canEnd() {
            return open > 0 && open <= DEEPEST && drafted > groupStart[open - 1];
        }

        private boolean repeat(int start, int times) {
            int more = (drafted - start) * (times - 1);
            if (start < 0 || more < 0 || drafted + more > MOST) {
                return false;
            }
            for (int k = 0; k < more; k++) {
                draft[drafted] = draft[start + k];
                drafted++;
            }
            return true;
        }

        /** What was read last becomes the roster of a corner. */
        void post(int corner) {
            if (!within(corner, 0, ALL_CORNERS - 1)) {
                return;
            }
            System.arraycopy(draft, 0, posted, corner * MOST, drafted);
            lengths[corner] = drafted;
        }

        int hoursOf(int corner) {
            return corner >= 0 && corner < ALL_CORNERS ? lengths[corner] : 0;
        }

        /** Whose hour it is, told or not. */
        int named(int corner, int time) {
            int length = hoursOf(corner);
            return length > 0 ? posted[corner * MOST + Math.floorMod(time, length)] : LACKING;
        }
    }

    /** Who has to stand where by the rosters, in the day from the hour on. */
    private static final class Duties {
        private final Street street;
        private final Rosters rosters;
        private final int[] held = new int[MEN];
        int strikeHours;
        int strikers;

        Duties(Street street, Rosters rosters) {
            this.street = street;
            this.rosters = rosters;
        }

        int whoHas(int corner, int time) {
            int m = rosters.named(corner, time);
            return street.manTold(m) ? m : LACKING;
        }

        /** The lowest corner from one on that a man has, in a house that has not fallen. */
        private int nextCorner(int m, int time, int from) {
            for (int corner = from; corner < ALL_CORNERS; corner++) {
                if (street.isUp(corner / CORNERS) && whoHas(corner, time) == m) {
                    return corner;
                }
            }
            return LACKING;
        }

        int whereIs(int m, int time) {
            return nextCorner(m, time, 0);
        }

        int hoursTwice(int m) {
            int number = 0;
            for (int k = 0; k < HOURS_A_DAY; k++) {
                int time = street.time() + k;
                int first = whereIs(m, time);
                number += first >= 0 && nextCorner(m, time, first + 1) >= 0 ? 1 : 0;
            }
            return number;
        }

        int pence(int m) {
            int sum = 0;
            for (int k = 0; k < HOURS_A_DAY; k++) {
                int corner = whereIs(m, street.time() + k);
                sum += corner >= 0 ? street.storeys[corner / CORNERS] : 0;
            }
            return sum;
        }

        int changes(int corner) {
            int number = 0;
            for (int k = 1; k < HOURS_A_DAY; k++) {
                int time = street.time() + k;
                number += whoHas(corner, time) != whoHas(corner, time - 1) ? 1 : 0;
            }
            return number;
        }

        int emptyHours(int corner) {
            int number = 0;
            for (int k = 0; k < HOURS_A_DAY; k++) {
                number += whoHas(corner, street.time() + k) < 0 ? 1 : 0;
            }
            return number;
        }

        int longestOnEnd(int corner) {
            int longest = 0;
            int length = 0;
            int before = LACKING;
            for (int k = 0; k < HOURS_A_DAY; k++) {
                int m = whoHas(corner, street.time() + k);
                length = m < 0 ? 0 : m == before ? length + 1 : 1;
                before = m;
                longest = Math.max(longest, length);
            }
            return longest;
        }

        /**
         * A man holds one corner an hour and nobody stands in for him, so what strikers leave adds up:
         * those who hold most are the best, of like ones the lowest.
         */
        void findStrikers(int n) {
            countHeld();
            strikeHours = 0;
            strikers = 0;
            for (int k = 0; k < n; k++) {
                int best = NONE;
                for (int m = 0; m < MEN; m++) {
                    boolean free = street.manTold(m) && (strikers >> m & 1) == 0;
                    if (free && (best < 0 || held[m] > held[best])) {
                        best = m;
                    }
                }
                if (best >= 0) {
                    strikers |= 1 << best;
                    strikeHours += held[best];
                }
            }
        }

        private void countHeld() {
            Arrays.fill(held, 0);
            for (int k = 0; k < HOURS_A_DAY; k++) {
                int stood = 0;
                for (int corner = 0; corner < ALL_CORNERS; corner++) {
                    int m = street.isUp(corner / CORNERS) ? whoHas(corner, street.time() + k) : LACKING;
                    if (m >= 0 && (stood >> m & 1) == 0) {
                        stood |= 1 << m;
                        held[m]++;
                    }
                }
            }
        }
    }

    /** Reads orders and does them at once, on a street for trial that is thrown away at a fault. */
    private static final class OrdersText {
        private static final int MOST_LINES = 20;

        private final Tape tape;
        private final Street trial;
        private int at;
        private int fault;

        OrdersText(Tape tape, Street trial) {
            this.tape = tape;
            this.trial = trial;
        }

        /** How many lines the text has, or its fault. */
        int read() {
            at = 0;
            fault = 0;
            for (int line = 0; line <= MOST_LINES; line++) {
                int sign = tape.byteAt(at);
                if (!isMan(sign) && !isDigit(sign)) {
                    return faultAt(1, at);
                }
                if (line == MOST_LINES) {
                    return faultAt(4, at);
                }
                if (!(isMan(sign) ? readRest() : readThing())) {
                    return fault;
                }
                if (tape.byteAt(at) == Tape.END) {
                    return line + 1;
                }
                if (tape.byteAt(at) != ';') {
                    return faultAt(1, at);
                }
                at++;
            }
            return fault;
        }

        private boolean fail(int number, int place) {
            fault = faultAt(number, place);
            return false;
        }

        /** A man and by how much he is less tired. */
        private boolean readRest() {
            int m = tape.byteAt(at) - 'a';
            if (!trial.manTold(m)) {
                return fail(7, at);
            }
            at++;
            int less = readNumber();
            if (less < 0) {
                return false;
            }
            trial.tired[m] = Math.max(0, trial.tired[m] - less);
            return true;
        }

        private boolean readThing() {
            int first = at;
            int t = readNumber();
            if (t < 0) {
                return false;
            }
            if (!trial.thingTold(t)) {
                return fail(7, first);
            }
            int sign = tape.byteAt(at);
            switch (sign) {
                case '>':
                    at++;
                    return readSpot(t);
                case '@':
                    at++;
                    return readHouse(t);
                case '!':
                    at++;
                    trial.weights[t] = 0;
                    return true;
                default:
                    return fail(1, at);
            }
        }

        private boolean readSpot(int t) {
            for (int k = 0; k < 2; k++) {
                int sign = tape.byteAt(at);
                if (!within(sign, '0', '8')) {
                    return fail(1, at);
                }
                if (k == 0) {
                    trial.xs[t] = sign - '0';
                } else {
                    trial.ys[t] = sign - '0';
                }
                at++;
            }
            return true;
        }

        private boolean readHouse(int t) {
            int sign = tape.byteAt(at);
            if (!within(sign, '0', '5')) {
                return fail(1, at);
            }
            if (!trial.houseTold(sign - '0')) {
                return fail(7, at);
            }
            trial.homes[t] = sign - '0';
            at++;
            return true;
        }

        /** One or two digits; below 0 at a fault. */
        private int readNumber() {
            int number = 0;
            for (int digits = 0; digits <= 2; digits++) {
                int sign = tape.byteAt(at);
                if (!isDigit(sign)) {
                    if (digits > 0) {
                        return number;
                    }
                    fail(1, at);
                    return NONE;
                }
                if (digits < 2) {
                    number = 10 * number + sign - '0';
                    at++;
                }
            }
            fail(2, at);
            return NONE;
        }
    }

    /** The law as steps for a machine with a stack: rules, each with where its value and its test begin. */
    private static final class LawCode {
        static final int END = 0;
        static final int NUMBER = 1;
        static final int FACT = 2;
        static final int NOT = 3;
        static final int AND = 4;
        static final int OR = 5;
        static final int MOST_RULES = 16;
        /** No byte of a text makes more than one step. */
        static final int MOST_STEPS = MOST_LAW;

        final int[] ops = new int[MOST_STEPS];
        final int[] args = new int[MOST_STEPS];
        final int[] letters = new int[MOST_RULES];
        final int[] values = new int[MOST_RULES];
        final int[] tests = new int[MOST_RULES];
        int size;
        int rules;

        int emit(int op, int arg) {
            if (size >= MOST_STEPS) {
                return NONE;
            }
            ops[size] = op;
            args[size] = arg;
            size++;
            return size - 1;
        }

        /** Lets a jump that was left open lead to the next step. */
        void aim(int step) {
            if (step >= 0 && step < size) {
                args[step] = size;
            }
        }

        void copy(LawCode other) {
            System.arraycopy(other.ops, 0, ops, 0, other.size);
            System.arraycopy(other.args, 0, args, 0, other.size);
            System.arraycopy(other.letters, 0, letters, 0, other.rules);
            System.arraycopy(other.values, 0, values, 0, other.rules);
            System.arraycopy(other.tests, 0, tests, 0, other.rules);
            size = other.size;
            rules = other.rules;
        }
    }

    /** Reads a law from the left; what is read goes to a draft, so that the law before can stay. */
    private static final class LawText {
        private static final int MOST_OPEN = 6;
        private static final int MOST_DIGITS = 5;

        private final Tape tape;
        final LawCode draft;
        private int at;
        private int fault;

        LawText(Tape tape, LawCode draft) {
            this.tape = tape;
            this.draft = draft;
        }

        /** How many rules the text has, or its fault. */
        int read() {
            at = 0;
            fault = 0;
            draft.size = 0;
            draft.rules = 0;
            for (int rule = 0; rule <= LawCode.MOST_RULES; rule++) {
                int letter = tape.byteAt(at);
                if (letter != 't' && letter != 'y' && letter != 'd' && letter != 'x') {
                    return faultAt(1, at);
                }
                if (rule == LawCode.MOST_RULES) {
                    return faultAt(4, at);
                }
                at++;
                draft.letters[rule] = letter;
                draft.values[rule] = draft.size;
                if (letter != 'x') {
                    if (!readExpression(0)) {
                        return faultAt(fault, at);
                    }
                    draft.emit(LawCode.END, 0);
                }
                draft.tests[rule] = draft.size;
                if (!readSign('(') || !readCondition(1) || !readSign(')')) {
                    return faultAt(fault, at);
                }
                draft.emit(LawCode.END, 0);
                draft.rules = rule + 1;
                if (tape.byteAt(at) == Tape.END) {
                    return draft.rules;
                }
                if (!readSign(';')) {
                    return faultAt(fault, at);
                }
            }
            return faultAt(fault, at);
        }

        /** Reading stops where it fails, so that the place of the fault is where the reader is. */
        private boolean fail(int number) {
            fault = number;
            return false;
        }

        private boolean readSign(int sign) {
            if (tape.byteAt(at) != sign) {
                return fail(1);
            }
            at++;
            return true;
        }

        /** Steps over ( [ or ! if it is not one too many inside the open ones. */
        private boolean enter(int open) {
            if (open >= MOST_OPEN) {
                return fail(5);
            }
            at++;
            return true;
        }

        /**
         * Tests with & and | between two. A jump behind a test leads past the next one only, to where
         * the same outcome jumps on.
         */
        private boolean readCondition(int open) {
            int pendingAnd = NONE;
            int pendingOr = NONE;
            for (int tests = 0; tests < MOST_LAW; tests++) {
                if (!readTest(open)) {
                    return false;
                }
                draft.aim(pendingAnd);
                pendingAnd = NONE;
                int sign = tape.byteAt(at);
                if (sign == '&') {
                    pendingAnd = draft.emit(LawCode.AND, 0);
                } else {
                    draft.aim(pendingOr);
                    if (sign != '|') {
                        return true;
                    }
                    pendingOr = draft.emit(LawCode.OR, 0);
                }
                at++;
            }
            return fail(1);
        }

        private boolean readTest(int open) {
            int sign = tape.byteAt(at);
            if (sign == '!') {
                if (!enter(open) || !readTest(open + 1)) {
                    return false;
                }
                draft.emit(LawCode.NOT, 0);
                return true;
            }
            if (sign == '(') {
                return enter(open) && readCondition(open + 1) && readSign(')');
            }
            if (!readExpression(open)) {
                return false;
            }
            int compared = tape.byteAt(at);
            if (compared != '<' && compared != '>' && compared != '=') {
                return fail(1);
            }
            at++;
            if (!readExpression(open)) {
                return false;
            }
            draft.emit(compared, 0);
            return true;
        }

        /** Factors with signs between two; * / % are done at once, + and - when the next term has ended. */
        private boolean readExpression(int open) {
            int pendingTerm = NONE;
            int pendingFactor = NONE;
            for (int factors = 0; factors < MOST_LAW; factors++) {
                if (!readFactor(open)) {
                    return false;
                }
                if (pendingFactor != NONE) {
                    draft.emit(pendingFactor, 0);
                    pendingFactor = NONE;
                }
                int sign = tape.byteAt(at);
                if (sign == '*' || sign == '/' || sign == '%') {
                    pendingFactor = sign;
                } else {
                    if (pendingTerm != NONE) {
                        draft.emit(pendingTerm, 0);
                    }
                    if (sign != '+' && sign != '-') {
                        return true;
                    }
                    pendingTerm = sign;
                }
                at++;
            }
            return fail(1);
        }

        private boolean readFactor(int open) {
            int sign = tape.byteAt(at);
            if (isDigit(sign)) {
                return readNumber();
            }
            if (sign == '[') {
                return enter(open) && readExpression(open + 1) && readSign(']');
            }
            int fact = Judge.factOf(sign);
            if (fact < 0) {
                return fail(1);
            }
            draft.emit(LawCode.FACT, fact);
            at++;
            return true;
        }

        private boolean readNumber() {
            int number = 0;
            for (int digits = 0; digits <= MOST_DIGITS; digits++) {
                int sign = tape.byteAt(at);
                if (!isDigit(sign)) {
                    draft.emit(LawCode.NUMBER, number);
                    return true;
                }
                if (digits < MOST_DIGITS) {
                    number = 10 * number + sign - '0';
                    at++;
                }
            }
            return fail(2);
        }
    }

    /** Says what the law asks of one man, by the facts about him. */
    private static final class Judge {
        static final int NUMBER_OF_MAN = 0;
        static final int STRENGTH = 1;
        static final int TIRED = 2;
        static final int CARRIES = 3;
        static final int HOUSE = 4;
        static final int CORNER = 5;
        static final int STOREYS = 6;
        static final int SAG = 7;
        static final int HOUR = 8;
        static final int DAY = 9;
        private static final int FACTS = 10;
        /** Six open brackets leave two values each below them at most. */
        private static final int DEEPEST = 32;

        private final LawCode law;
        final int[] facts = new int[FACTS];
        private final int[] stack = new int[DEEPEST];
        private boolean refused;

        Judge(LawCode law) {
            this.law = law;
        }

        static int factOf(int letter) {
            switch (letter) {
                case 'm': return NUMBER_OF_MAN;
                case 's': return STRENGTH;
                case 'a': return TIRED;
                case 'l': return CARRIES;
                case 'i': return HOUSE;
                case 'c': return CORNER;
                case 'k': return STOREYS;
                case 'g': return SAG;
                case 'h': return HOUR;
                case 'n': return DAY;
                default: return NONE;
            }
        }

        /** What the law says for a letter, between 0 and a bound. */
        int amount(int letter, int most) {
            int rule = ruleFor(letter);
            if (rule < 0) {
                return 0;
            }
            int value = run(law.values[rule]);
            return refused ? 0 : Math.max(0, Math.min(most, value));
        }

        /** The first rule of a letter that holds, or none. */
        int ruleFor(int letter) {
            for (int rule = 0; rule < law.rules && rule < LawCode.MOST_RULES; rule++) {
                if (law.letters[rule] == letter && run(law.tests[rule]) != 0 && !refused) {
                    return rule;
                }
            }
            return NONE;
        }

        /** All jumps lead ahead, so no step is done twice. */
        private int run(int from) {
            refused = false;
            int top = NONE;
            int step = from;
            for (int turn = 0; turn < LawCode.MOST_STEPS; turn++) {
                if (refused || step < 0 || step >= law.size) {
                    return 0;
                }
                int op = law.ops[step];
                int arg = law.args[step];
                step++;
                if (op == LawCode.NUMBER || op == LawCode.FACT) {
                    if (top + 1 >= DEEPEST) {
                        return 0;
                    }
                    top++;
                    stack[top] = op == LawCode.NUMBER ? arg : factAt(arg);
                } else if (top < 0) {
                    return 0;
                } else if (op == LawCode.END) {
                    return stack[top];
                } else if (op == LawCode.NOT) {
                    stack[top] = stack[top] == 0 ? 1 : 0;
                } else if (op == LawCode.AND || op == LawCode.OR) {
                    boolean settled = (stack[top] != 0) == (op == LawCode.OR);
                    step = settled ? arg : step;
                    top = settled ? top : top - 1;
                } else if (top < 1) {
                    return 0;
                } else {
                    top--;
                    stack[top] = reckon(op, stack[top], stack[top + 1]);
                }
            }
            return 0;
        }

        private int factAt(int fact) {
            return fact >= 0 && fact < FACTS ? facts[fact] : 0;
        }

        private int reckon(int sign, int a, int b) {
            switch (sign) {
                case '+': return a + b;
                case '-': return a - b;
                case '*': return a * b;
                case '<': return a < b ? 1 : 0;
                case '>': return a > b ? 1 : 0;
                case '=': return a == b ? 1 : 0;
                default: break;
            }
            if (b == 0) {
                refused = true;
                return 0;
            }
            return sign == '/' ? a / b : a % b;
        }
    }

    /** Lets hours go by in a street, the real one or one for trial, and counts what happens. */
    private static final class Watch {
        private final Street street;
        private final Rosters rosters;
        private final Judge judge;
        private final int[] loads = new int[ALL_CORNERS];
        private int stood;
        int sagged;
        int sneezed;
        int unheld;
        int fell;

        Watch(Street street, Rosters rosters, Judge judge) {
            this.street = street;
            this.rosters = rosters;
            this.judge = judge;
        }

        /** Things do not move while hours go by, so the loads are reckoned once. */
        void begin() {
            sagged = 0;
            sneezed = 0;
            unheld = 0;
            fell = 0;
            for (int corner = 0; corner < ALL_CORNERS; corner++) {
                loads[corner] = street.loadOf(corner / CORNERS, corner % CORNERS);
            }
        }

        /** An hour, if one can still go by. */
        void pass() {
            if (street.isOver()) {
                return;
            }
            stood = 0;
            for (int corner = 0; corner < ALL_CORNERS; corner++) {
                if (street.isUp(corner / CORNERS)) {
                    hold(corner);
                }
            }
            for (int m = 0; m < MEN; m++) {
                if (street.manTold(m) && (stood >> m & 1) == 0) {
                    rest(m);
                }
            }
            street.tick();
        }

        private void hold(int corner) {
            int m = rosters.named(corner, street.time());
            if (!street.manTold(m) || (stood >> m & 1) != 0) {
                unheld++;
                sag(corner / CORNERS);
                return;
            }
            stood |= 1 << m;
            tell(m, corner);
            int more = judge.amount('t', MOST_TIRED);
            street.tired[m] = Math.min(MOST_TIRED, street.tired[m] + more);
            judge.facts[Judge.TIRED] = street.tired[m];
            boolean letsGo = street.tired[m] >= MOST_TIRED || judge.ruleFor('x') >= 0;
            // A number is drawn of everybody who has not let go, whatever the law says of sneezing.
            boolean sneezes = !letsGo && street.draw() < judge.amount('d', 10);
            sneezed += sneezes ? 1 : 0;
            if (letsGo || sneezes) {
                sag(corner / CORNERS);
            }
        }

        private void sag(int i) {
            if (!street.isUp(i)) {
                return;
            }
            street.sags[i]++;
            sagged++;
            fell += street.isUp(i) ? 0 : 1;
        }

        private void rest(int m) {
            tell(m, NONE);
            int less = judge.amount('y', MOST_TIRED);
            street.tired[m] = Math.max(0, street.tired[m] - less);
        }

        /** The facts about a man at a corner, or off duty at none. */
        private void tell(int m, int corner) {
            boolean onDuty = within(corner, 0, ALL_CORNERS - 1);
            int i = onDuty ? corner / CORNERS : 0;
            int[] facts = judge.facts;
            facts[Judge.NUMBER_OF_MAN] = m;
            facts[Judge.STRENGTH] = street.strengths[m];
            facts[Judge.TIRED] = street.tired[m];
            facts[Judge.CARRIES] = onDuty ? loads[corner] / 64 : 0;
            facts[Judge.HOUSE] = i;
            facts[Judge.CORNER] = onDuty ? corner % CORNERS : 0;
            facts[Judge.STOREYS] = onDuty ? street.storeys[i] : 0;
            facts[Judge.SAG] = onDuty ? street.sags[i] : 0;
            facts[Judge.HOUR] = street.hour;
            facts[Judge.DAY] = street.day % 100;
        }
    }

    /** What the corners of one house carry: beds, who stands where, what has to go, who is felt. */
    private static final class Carrying {
        private static final int MOST_IN = 12;
        private static final int SIDE = FAR_SIDE + 1;

        private final Street street;
        private final Duties duties;
        private final int[] loads = new int[CORNERS];
        private final long[] unexplained = new long[CORNERS];
        private final int[] portions = new int[MOST_IN * CORNERS];
        private final int[] chosen = new int[CORNERS];
        int bedX;
        int bedY;
        int bedLoad;
        final int[] row = new int[CORNERS];
        int above;
        int below;
        int firstSpot;

        Carrying(Street street, Duties duties) {
            this.street = street;
            this.duties = duties;
        }

        private void weigh(int i) {
            for (int c = 0; c < CORNERS; c++) {
                loads[c] = street.loadOf(i, c);
            }
        }

        void findBed(int i, int weight) {
            weigh(i);
            bedLoad = NONE;
            for (int y = 0; y < SIDE; y++) {
                for (int x = 0; x < SIDE; x++) {
                    int most = 0;
                    for (int c = 0; c < CORNERS; c++) {
                        most = Math.max(most, loads[c] + weight * Street.portion(x, y, c));
                    }
                    if (bedLoad < 0 || most < bedLoad) {
                        bedLoad = most;
                        bedX = x;
                        bedY = y;
                    }
                }
            }
        }

        /** Rows are tried from the least on, so the first of like ones stays. */
        void findRow(int i, int men) {
            weigh(i);
            choose(men);
            above = NONE;
            below = 1;
            for (int order = 0; order < 256; order++) {
                int p = order >> 6;
                int q = order >> 4 & 3;
                int r = order >> 2 & 3;
                int s = order & 3;
                if ((1 << p | 1 << q | 1 << r | 1 << s) == 15) {
                    tryRow(p, q, r, s);
                }
            }
        }

        private void choose(int men) {
            int number = 0;
            for (int m = 0; m < MEN; m++) {
                if ((men >> m & 1) != 0 && number < CORNERS) {
                    chosen[number] = m;
                    number++;
                }
            }
        }

        private void tryRow(int p, int q, int r, int s) {
            int up = 0;
            int down = 1;
            for (int c = 0; c < CORNERS; c++) {
                int strength = street.strengths[chosen[c == 0 ? p : c == 1 ? q : c == 2 ? r : s]];
                if (loads[c] * down > up * strength) {
                    up = loads[c];
                    down = strength;
                }
            }
            if (above < 0 || up * below < above * down) {
                above = up;
                below = down;
                row[0] = chosen[p];
                row[1] = chosen[q];
                row[2] = chosen[r];
                row[3] = chosen[s];
            }
        }

        /** The bits of the things that must go, or why there are none. */
        int leastToGo(int i) {
            int number = street.thingsIn(i);
            if (number > MOST_IN) {
                return TOO_MANY_THINGS;
            }
            findExcess(i);
            splitThings(i);
            int best = LACKING;
            int gone = 0;
            // Each turn puts one thing out or back (a Gray code), so that loads are not summed anew.
            for (int turn = 0; turn < 1 << number; turn++) {
                if (turn > 0) {
                    int bit = Integer.numberOfTrailingZeros(turn);
                    gone ^= 1 << bit;
                    shift(bit, (gone >> bit & 1) != 0 ? -1 : 1);
                }
                if (isCarried() && (best < 0 || isLess(gone, best))) {
                    best = gone;
                }
            }
            return best;
        }

        private static boolean isLess(int bits, int than) {
            int byNumber = Integer.compare(Integer.bitCount(bits), Integer.bitCount(than));
            return byNumber < 0 || byNumber == 0 && bits < than;
        }

        private void findExcess(int i) {
            weigh(i);
            for (int c = 0; c < CORNERS; c++) {
                int m = duties.whoHas(i * CORNERS + c, street.time());
                loads[c] -= street.manTold(m) ? 64 * street.strengths[m] : 0;
            }
        }

        private void splitThings(int i) {
            int number = 0;
            for (int t = 0; t < THINGS; t++) {
                if (street.isIn(t, i) && number < MOST_IN) {
                    for (int c = 0; c < CORNERS; c++) {
                        portions[number * CORNERS + c] = street.loadBy(t, c);
                    }
                    number++;
                }
            }
        }

        private void shift(int thing, int sign) {
            if (!within(thing, 0, MOST_IN - 1)) {
                return;
            }
            for (int c = 0; c < CORNERS; c++) {
                loads[c] += sign * portions[thing * CORNERS + c];
            }
        }

        private boolean isCarried() {
            return loads[0] <= 0 && loads[1] <= 0 && loads[2] <= 0 && loads[3] <= 0;
        }

        /** What the told loads are above those that the house has. */
        void feel(int i, Tape tape) {
            weigh(i);
            for (int c = 0; c < CORNERS; c++) {
                unexplained[c] = (long) tape.wordAt(4 * c) - loads[c];
            }
        }

        /**
         * Where a weight explains what is felt, as 9 y + x, or below 0: the two right corners together
         * tell x, the two far ones y, so that there is one spot at most.
         */
        int spotOf(int weight) {
            long unit = (long) FAR_SIDE * weight;
            if (unit <= 0) {
                return NONE;
            }
            long x = (unexplained[1] + unexplained[3]) / unit;
            long y = (unexplained[2] + unexplained[3]) / unit;
            if (x < 0 || x > FAR_SIDE || y < 0 || y > FAR_SIDE) {
                return NONE;
            }
            for (int c = 0; c < CORNERS; c++) {
                if (unexplained[c] != (long) weight * Street.portion((int) x, (int) y, c)) {
                    return NONE;
                }
            }
            return (int) y * SIDE + (int) x;
        }

        int waysOfTwo(int weight, int other) {
            int ways = 0;
            firstSpot = NONE;
            for (int spot = 0; spot < SIDE * SIDE; spot++) {
                explain(spot, -weight);
                if (spotOf(other) >= 0) {
                    ways++;
                    firstSpot = firstSpot < 0 ? spot : firstSpot;
                }
                explain(spot, weight);
            }
            return ways;
        }

        private void explain(int spot, int weight) {
            for (int c = 0; c < CORNERS; c++) {
                unexplained[c] += (long) weight * Street.portion(spot % SIDE, spot / SIDE, c);
            }
        }
    }

    /** Houses that knock one another over. */
    private static final class Falling {
        private final Street street;
        private final int[] toRight = new int[HOUSES];
        private final int[] toLeft = new int[HOUSES];

        Falling(Street street) {
            this.street = street;
        }

        int knockedBy(int i, boolean right) {
            int bits = 1 << i;
            for (int round = 0; round < HOUSES; round++) {
                for (int a = 0; a < HOUSES; a++) {
                    if ((bits >> a & 1) != 0) {
                        bits |= reachedBy(a, right);
                    }
                }
            }
            return bits;
        }

        private int reachedBy(int a, boolean right) {
            int bits = 0;
            for (int b = 0; b < HOUSES; b++) {
                int apart = street.places[b] - street.places[a];
                int away = right ? apart : -apart;
                if (street.isUp(b) && away > 0 && away <= 3 * street.storeys[a]) {
                    bits |= 1 << b;
                }
            }
            return bits;
        }

        /** The bits of the fewest that make all fall; bits are tried from the least on. */
        int leastPushed() {
            int all = street.upBits();
            for (int i = 0; i < HOUSES; i++) {
                toRight[i] = street.isUp(i) ? knockedBy(i, true) : 0;
                toLeft[i] = street.isUp(i) ? knockedBy(i, false) : 0;
            }
            int best = all;
            for (int pushed = 0; pushed < 1 << HOUSES; pushed++) {
                boolean fewer = Integer.bitCount(pushed) < Integer.bitCount(best);
                if ((pushed & ~all) == 0 && fewer && canFell(pushed, all)) {
                    best = pushed;
                }
            }
            return best;
        }

        private boolean canFell(int pushed, int all) {
            for (int right = 0; right < 1 << HOUSES; right++) {
                if ((right & ~pushed) == 0 && felledBy(pushed, right) == all) {
                    return true;
                }
            }
            return false;
        }

        private int felledBy(int pushed, int right) {
            int bits = 0;
            for (int i = 0; i < HOUSES; i++) {
                if ((pushed >> i & 1) != 0) {
                    bits |= (right >> i & 1) != 0 ? toRight[i] : toLeft[i];
                }
            }
            return bits;
        }
    }

    /** Bricks, bread and beams: what does not hang on the street. */
    private static final class Handiwork {
        static final int PIECES = 8;
        private static final int MOST_BRICKS = 8;
        /** A row 16 wide can be laid in 37 ways. */
        private static final int MOST_ROWS = 40;

        private final int[] rows = new int[MOST_ROWS];
        private int laid;
        private final long[] ways = new long[MOST_ROWS];
        private final long[] waysAbove = new long[MOST_ROWS];
        private final int[] ends = new int[PIECES + 1];
        private final int[] costs = new int[PIECES * PIECES];

        long walls(int wide, int high) {
            layRows(wide);
            for (int row = 0; row < laid; row++) {
                ways[row] = 1;
            }
            for (int level = 1; level < high; level++) {
                buildLevel();
            }
            long sum = 0;
            for (int row = 0; row < laid; row++) {
                sum += ways[row];
            }
            return sum;
        }

        /**
         * All rows as the bits of their seams. Bricks are 2 long at least, so 8 fill the widest row, and
         * 8 bits tell which of them are long; bits that are left over would tell the same row again.
         */
        private void layRows(int wide) {
            laid = 0;
            for (int longOnes = 0; longOnes < 1 << MOST_BRICKS; longOnes++) {
                int seams = 0;
                int to = 0;
                int left = longOnes;
                for (int brick = 0; brick < MOST_BRICKS && to < wide; brick++) {
                    to += 2 + (left & 1);
                    left >>= 1;
                    seams |= to < wide ? 1 << to : 0;
                }
                if (to == wide && left == 0 && laid < MOST_ROWS) {
                    rows[laid] = seams;
                    laid++;
                }
            }
        }

        private void buildLevel() {
            for (int upper = 0; upper < laid; upper++) {
                long sum = 0;
                for (int lower = 0; lower < laid; lower++) {
                    sum += (rows[upper] & rows[lower]) == 0 ? ways[lower] : 0;
                }
                waysAbove[upper] = sum;
            }
            System.arraycopy(waysAbove, 0, ways, 0, laid);
        }

        /** What goes over each gap between two houses is what those ahead of it have too much or too little. */
        int handed(Tape tape) {
            int number = tape.size;
            if (number <= 0) {
                return 0;
            }
            int sum = 0;
            for (int k = 0; k < number; k++) {
                sum += tape.byteAt(k);
            }
            int over = 0;
            int answer = 0;
            for (int k = 0; k < number; k++) {
                over += tape.byteAt(k) - sum / number - (k < sum % number ? 1 : 0);
                answer += Math.abs(over);
            }
            return answer;
        }

        int cutting(Tape tape) {
            int number = Math.min(tape.size, PIECES);
            for (int k = 0; k < number; k++) {
                int piece = tape.byteAt(k);
                if (!within(piece, 1, 99)) {
                    return LACKING;
                }
                ends[k + 1] = ends[k] + piece;
                costs[k * PIECES + k] = 0;
            }
            for (int more = 1; more < number; more++) {
                for (int first = 0; first + more < number; first++) {
                    int last = first + more;
                    costs[first * PIECES + last] = ends[last + 1] - ends[first] + leastBelow(first, last);
                }
            }
            return number > 0 ? costs[number - 1] : 0;
        }

        /** The least cost of the two pieces that a first cut leaves. */
        private int leastBelow(int first, int last) {
            int least = NONE;
            for (int cut = first; cut < last; cut++) {
                int cost = costs[first * PIECES + cut] + costs[(cut + 1) * PIECES + last];
                if (least < 0 || cost < least) {
                    least = cost;
                }
            }
            return least;
        }
    }
}
