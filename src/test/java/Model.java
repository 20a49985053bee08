import java.util.ArrayList;
import java.util.Collections;
import java.util.HashSet;
import java.util.List;
import java.util.Map;
import java.util.Set;
import java.util.TreeMap;

/**
 * The document told a second time, as plainly as can be and without a thought of speed or room: maps, trees
 * of small functions, exceptions for faults, and trying all there is. ModelTest holds the program against it.
 */
final class Model {
    private static final class Fault extends RuntimeException {
        final int answer;

        Fault(int number, int place) {
            super(null, null, false, false);
            answer = -1000 * number - place;
        }
    }

    private static final class Refused extends RuntimeException {
        Refused() {
            super(null, null, false, false);
        }
    }

    private interface Value {
        int of(Map<Character, Integer> facts);
    }

    private record Rule(char letter, Value value, Value test) { }

    private static final class World {
        Map<Integer, int[]> houses = new TreeMap<>();
        Map<Integer, int[]> things = new TreeMap<>();
        Map<Integer, int[]> men = new TreeMap<>();
        int hour;
        int day;
        int x = 1;

        World copy() {
            World w = new World();
            houses.forEach((k, v) -> w.houses.put(k, v.clone()));
            things.forEach((k, v) -> w.things.put(k, v.clone()));
            men.forEach((k, v) -> w.men.put(k, v.clone()));
            w.hour = hour;
            w.day = day;
            w.x = x;
            return w;
        }

        boolean up(int i) {
            return houses.containsKey(i) && houses.get(i)[2] < 9;
        }
    }

    private World now = new World();
    private World kept;
    private String tape = "";
    private List<Rule> law = new ArrayList<>();
    private final Map<Integer, String> rosters = new TreeMap<>();

    private int sagged;
    private int sneezed;
    private int unheld;
    private int fell;

    boolean house(int i, int storeys, int place) {
        if (i < 0 || i > 5 || storeys < 1 || storeys > 9 || place < 0 || place > 99) {
            return false;
        }
        now.houses.put(i, new int[] {storeys, place, 0});
        return true;
    }

    boolean thing(int t, int i, int x, int y, int weight) {
        if (t < 0 || t > 23 || !now.houses.containsKey(i) || x < 0 || x > 8 || y < 0 || y > 8 || weight < 1
            || weight > 99) {
            return false;
        }
        now.things.put(t, new int[] {i, x, y, weight});
        return true;
    }

    boolean man(int m, int strength) {
        if (m < 0 || m > 15 || strength < 1 || strength > 99) {
            return false;
        }
        now.men.put(m, new int[] {strength, 0});
        return true;
    }

    int feed(int... words) {
        if (tape.length() > 240) {
            return -1;
        }
        for (int word : words) {
            for (int k = 3; k >= 0; k--) {
                tape += (char) (word >> 8 * k & 255);
            }
        }
        return tape.length();
    }

    /** The first n bytes, the tape empty then; null: it has not so many, or no such n. */
    private String taken(int n, int least, int most) {
        if (n < least || n > most || n > tape.length()) {
            return null;
        }
        String text = tape.substring(0, n);
        tape = "";
        return text;
    }

    // ---- texts ----

    private static char sign(String text, int at) {
        return at < text.length() ? text.charAt(at) : (char) 999;
    }

    int roster(int i, int c, int n) {
        if (i < 0 || i > 5 || c < 0 || c > 3) {
            return -1;
        }
        String text = taken(n, 1, 40);
        if (text == null) {
            return -1;
        }
        try {
            int[] at = {0};
            String hours = rosterHours(text, at, 0, 0);
            if (at[0] < text.length()) {
                throw new Fault(1, at[0]);
            }
            rosters.put(4 * i + c, hours);
            return hours.length();
        } catch (Fault fault) {
            return fault.answer;
        }
    }

    private String rosterHours(String text, int[] at, int depth, int ahead) {
        String all = "";
        do {
            int first = at[0];
            int times = 1;
            if ("23456789".indexOf(sign(text, at[0])) >= 0) {
                times = sign(text, at[0]++) - '0';
            }
            char sign = sign(text, at[0]);
            String one;
            if (sign == '(') {
                if (depth == 2) {
                    throw new Fault(5, at[0]);
                }
                at[0]++;
                one = rosterHours(text, at, depth + 1, ahead + all.length());
                if (sign(text, at[0]) != ')') {
                    throw new Fault(1, at[0]);
                }
            } else if ("abcdefghijklmnop.".indexOf(sign) >= 0) {
                one = "" + sign;
            } else {
                throw new Fault(1, at[0]);
            }
            at[0]++;
            all += one.repeat(times);
            if (ahead + all.length() > 48) {
                throw new Fault(6, first);
            }
        } while (at[0] < text.length() && sign(text, at[0]) != ')');
        return all;
    }

    int orders(int n) {
        String text = taken(n, 1, 120);
        if (text == null) {
            return -1;
        }
        World before = now.copy();
        try {
            int lines = 0;
            int[] at = {0};
            while (true) {
                char sign = sign(text, at[0]);
                if ("0123456789abcdefghijklmnop".indexOf(sign) < 0) {
                    throw new Fault(1, at[0]);
                }
                lines++;
                if (lines > 20) {
                    throw new Fault(4, at[0]);
                }
                if (Character.isDigit(sign)) {
                    thingLine(text, at);
                } else {
                    if (!now.men.containsKey(sign - 'a')) {
                        throw new Fault(7, at[0]);
                    }
                    at[0]++;
                    int[] man = now.men.get(sign - 'a');
                    man[1] = Math.max(0, man[1] - number(text, at, 2));
                }
                if (at[0] == text.length()) {
                    return lines;
                }
                expect(text, at, ";");
            }
        } catch (Fault fault) {
            now = before;
            return fault.answer;
        }
    }

    private void thingLine(String text, int[] at) {
        int first = at[0];
        int t = number(text, at, 2);
        if (!now.things.containsKey(t)) {
            throw new Fault(7, first);
        }
        int[] thing = now.things.get(t);
        char sign = expect(text, at, ">@!");
        if (sign == '!') {
            now.things.remove(t);
        } else if (sign == '>') {
            thing[1] = expect(text, at, "012345678") - '0';
            thing[2] = expect(text, at, "012345678") - '0';
        } else {
            int i = expect(text, at, "012345") - '0';
            if (!now.houses.containsKey(i)) {
                throw new Fault(7, at[0] - 1);
            }
            thing[0] = i;
        }
    }

    private static char expect(String text, int[] at, String signs) {
        char sign = sign(text, at[0]);
        if (signs.indexOf(sign) < 0) {
            throw new Fault(1, at[0]);
        }
        at[0]++;
        return sign;
    }

    private static int number(String text, int[] at, int most) {
        int first = at[0];
        expect(text, at, "0123456789");
        while ("0123456789".indexOf(sign(text, at[0])) >= 0) {
            if (at[0] - first == most) {
                throw new Fault(2, at[0]);
            }
            at[0]++;
        }
        return Integer.parseInt(text.substring(first, at[0]));
    }

    int law(int n) {
        String text = taken(n, 1, 240);
        if (text == null) {
            return -1;
        }
        try {
            List<Rule> rules = new ArrayList<>();
            int[] at = {0};
            do {
                if (!rules.isEmpty()) {
                    expect(text, at, ";");
                }
                char letter = expect(text, at, "tydx");
                if (rules.size() == 16) {
                    throw new Fault(4, at[0] - 1);
                }
                Value value = letter == 'x' ? null : sum(text, at, 0);
                expect(text, at, "(");
                Value test = anyOf(text, at, 1);
                expect(text, at, ")");
                rules.add(new Rule(letter, value, test));
            } while (at[0] < text.length());
            law = rules;
            return rules.size();
        } catch (Fault fault) {
            return fault.answer;
        }
    }

    private static void open(String text, int[] at, int depth) {
        if (depth == 6) {
            throw new Fault(5, at[0]);
        }
        at[0]++;
    }

    private static Value anyOf(String text, int[] at, int depth) {
        Value left = allOf(text, at, depth);
        if (sign(text, at[0]) != '|') {
            return left;
        }
        at[0]++;
        Value right = anyOf(text, at, depth);
        return facts -> left.of(facts) == 1 ? 1 : right.of(facts);
    }

    private static Value allOf(String text, int[] at, int depth) {
        Value left = test(text, at, depth);
        if (sign(text, at[0]) != '&') {
            return left;
        }
        at[0]++;
        Value right = allOf(text, at, depth);
        return facts -> left.of(facts) == 0 ? 0 : right.of(facts);
    }

    private static Value test(String text, int[] at, int depth) {
        char sign = sign(text, at[0]);
        if (sign == '!') {
            open(text, at, depth);
            Value inner = test(text, at, depth + 1);
            return facts -> 1 - inner.of(facts);
        }
        if (sign == '(') {
            open(text, at, depth);
            Value inner = anyOf(text, at, depth + 1);
            expect(text, at, ")");
            return inner;
        }
        Value left = sum(text, at, depth);
        char how = expect(text, at, "<>=");
        Value right = sum(text, at, depth);
        return facts -> {
            int a = left.of(facts);
            int b = right.of(facts);
            return (how == '<' ? a < b : how == '>' ? a > b : a == b) ? 1 : 0;
        };
    }

    private static Value sum(String text, int[] at, int depth) {
        Value all = product(text, at, depth);
        while ("+-".indexOf(sign(text, at[0])) >= 0) {
            Value left = all;
            boolean plus = sign(text, at[0]++) == '+';
            Value right = product(text, at, depth);
            all = facts -> left.of(facts) + (plus ? right.of(facts) : -right.of(facts));
        }
        return all;
    }

    private static Value product(String text, int[] at, int depth) {
        Value all = factor(text, at, depth);
        while ("*/%".indexOf(sign(text, at[0])) >= 0) {
            Value left = all;
            char how = sign(text, at[0]++);
            Value right = factor(text, at, depth);
            all = facts -> {
                int a = left.of(facts);
                int b = right.of(facts);
                if (how != '*' && b == 0) {
                    throw new Refused();
                }
                return how == '*' ? a * b : how == '/' ? a / b : a % b;
            };
        }
        return all;
    }

    private static Value factor(String text, int[] at, int depth) {
        char sign = sign(text, at[0]);
        if (sign == '[') {
            open(text, at, depth);
            Value inner = sum(text, at, depth + 1);
            expect(text, at, "]");
            return inner;
        }
        if ("0123456789".indexOf(sign) >= 0) {
            int number = number(text, at, 5);
            return facts -> number;
        }
        char letter = expect(text, at, "msalickghn");
        return facts -> facts.get(letter);
    }

    // ---- hours ----

    private int asked(char letter, int most, Map<Character, Integer> facts) {
        for (Rule rule : law) {
            if (rule.letter == letter && asks(rule.test, facts) == 1) {
                return letter == 'x' ? 1 : Math.max(0, Math.min(most, asks(rule.value, facts)));
            }
        }
        return 0;
    }

    private static int asks(Value value, Map<Character, Integer> facts) {
        try {
            return value.of(facts);
        } catch (Refused refused) {
            return 0;
        }
    }

    private Map<Character, Integer> facts(World w, int m, int i, int c) {
        Map<Character, Integer> facts = new TreeMap<>();
        facts.put('m', m);
        facts.put('s', w.men.get(m)[0]);
        facts.put('a', w.men.get(m)[1]);
        facts.put('l', i < 0 ? 0 : loadOf(w, i, c) / 64);
        facts.put('i', Math.max(0, i));
        facts.put('c', Math.max(0, c));
        facts.put('k', i < 0 ? 0 : w.houses.get(i)[0]);
        facts.put('g', i < 0 ? 0 : w.houses.get(i)[2]);
        facts.put('h', w.hour);
        facts.put('n', w.day % 100);
        return facts;
    }

    private int named(World w, int i, int c, int later) {
        String hours = rosters.get(4 * i + c);
        if (hours == null) {
            return -2;
        }
        int m = hours.charAt((24 * w.day + w.hour + later) % hours.length()) - 'a';
        return w.men.containsKey(m) ? m : -2;
    }

    private void sag(World w, int i) {
        w.houses.get(i)[2]++;
        sagged++;
        fell += w.up(i) ? 0 : 1;
    }

    private void hour(World w) {
        Set<Integer> stood = new HashSet<>();
        for (int i : w.houses.keySet()) {
            for (int c = 0; c < 4; c++) {
                if (!w.up(i)) {
                    break;
                }
                int m = named(w, i, c, 0);
                if (m < 0 || !stood.add(m)) {
                    unheld++;
                    sag(w, i);
                    continue;
                }
                int[] man = w.men.get(m);
                man[1] = Math.min(99, man[1] + asked('t', 99, facts(w, m, i, c)));
                if (man[1] == 99 || asked('x', 1, facts(w, m, i, c)) == 1) {
                    sag(w, i);
                    continue;
                }
                w.x = (25173 * w.x + 13849) % 65536;
                if (w.x % 10 < asked('d', 10, facts(w, m, i, c))) {
                    sneezed++;
                    sag(w, i);
                }
            }
        }
        w.men.forEach((m, man) -> {
            if (!stood.contains(m)) {
                man[1] = Math.max(0, man[1] - asked('y', 99, facts(w, m, -1, -1)));
            }
        });
        w.hour++;
        if (w.hour == 24) {
            w.hour = 0;
            w.day++;
        }
    }

    private void pass(World w, int n) {
        sagged = 0;
        sneezed = 0;
        unheld = 0;
        fell = 0;
        for (int k = 0; k < n; k++) {
            hour(w);
        }
    }

    int hours(int n) {
        if (n < 1 || n > 240) {
            return -1;
        }
        pass(now, n);
        return sagged;
    }

    int tried(int n, int what) {
        boolean man = what >= 10 && what <= 25 && now.men.containsKey(what - 10);
        boolean house = what >= 30 && what <= 35 && now.houses.containsKey(what - 30);
        if (n < 1 || n > 240 || what < 0 || what > 3 && !man && !house) {
            return -1;
        }
        World w = now.copy();
        pass(w, n);
        if (man) {
            return w.men.get(what - 10)[1];
        }
        if (house) {
            return w.houses.get(what - 30)[2];
        }
        return new int[] {sagged, sneezed, unheld, fell}[what];
    }

    int stands(int i, int n) {
        if (!now.houses.containsKey(i) || n < 1 || n > 240) {
            return -1;
        }
        World w = now.copy();
        for (int k = 0; k <= n; k++) {
            if (!w.up(i)) {
                return k;
            }
            hour(w);
        }
        return -2;
    }

    int fallsFirst(int n) {
        if (n < 1 || n > 240) {
            return -1;
        }
        int best = -2;
        int least = 999;
        for (int i = 0; i < 6; i++) {
            int behind = stands(i, n);
            if (behind > 0 && behind < least) {
                least = behind;
                best = i;
            }
        }
        return best;
    }

    // ---- what is ----

    private static int portion(int x, int y, int c) {
        return new int[] {(8 - x) * (8 - y), x * (8 - y), (8 - x) * y, x * y}[c];
    }

    private static int loadOf(World w, int i, int c) {
        int sum = 640 * w.houses.get(i)[0];
        for (int[] thing : w.things.values()) {
            sum += thing[0] == i ? thing[3] * portion(thing[1], thing[2], c) : 0;
        }
        return sum;
    }

    private List<int[]> thingsOf(int i) {
        List<int[]> all = new ArrayList<>();
        now.things.forEach((t, thing) -> {
            if (thing[0] == i) {
                all.add(thing);
            }
        });
        return all;
    }

    int houseIs(int i, int what) {
        if (!now.houses.containsKey(i) || what < 0 || what > 5) {
            return -1;
        }
        if (what < 3) {
            return now.houses.get(i)[what];
        }
        if (what == 3) {
            return thingsOf(i).size();
        }
        if (what == 5) {
            return thingsOf(i).stream().mapToInt(thing -> thing[3]).sum();
        }
        List<Integer> loads = new ArrayList<>();
        for (int c = 0; c < 4; c++) {
            loads.add(loadOf(now, i, c));
        }
        return Collections.max(loads) - Collections.min(loads);
    }

    int thingIs(int t, int what) {
        return now.things.containsKey(t) && what >= 0 && what < 4 ? now.things.get(t)[what] : -1;
    }

    int manIs(int m, int what) {
        if (!now.men.containsKey(m) || what < 0 || what > 4) {
            return -1;
        }
        if (what < 2) {
            return now.men.get(m)[what];
        }
        int twice = 0;
        int pence = 0;
        for (int k = 0; k < 24; k++) {
            List<Integer> corners = new ArrayList<>();
            for (int corner = 0; corner < 24; corner++) {
                if (now.up(corner / 4) && named(now, corner / 4, corner % 4, k) == m) {
                    corners.add(corner);
                }
            }
            if (k == 0 && what == 2) {
                return corners.isEmpty() ? -2 : corners.get(0);
            }
            twice += corners.size() > 1 ? 1 : 0;
            pence += corners.isEmpty() ? 0 : now.houses.get(corners.get(0) / 4)[0];
        }
        return what == 3 ? twice : pence;
    }

    int load(int i, int c) {
        return now.houses.containsKey(i) && c >= 0 && c < 4 ? loadOf(now, i, c) : -1;
    }

    int duty(int i, int c) {
        return now.houses.containsKey(i) && c >= 0 && c < 4 ? named(now, i, c, 0) : -1;
    }

    int heaviest(int what) {
        if (what < 0 || what > 2) {
            return -1;
        }
        int[] best = {-2, -2, -2};
        for (int i : now.houses.keySet()) {
            for (int c = 0; c < 4; c++) {
                if (loadOf(now, i, c) > best[2]) {
                    best = new int[] {i, c, loadOf(now, i, c)};
                }
            }
        }
        return best[what];
    }

    // ---- where, who, what ----

    int bed(int i, int weight, int what) {
        if (!now.houses.containsKey(i) || weight < 1 || weight > 99 || what < 0 || what > 2) {
            return -1;
        }
        int[] best = null;
        for (int spot = 0; spot < 81; spot++) {
            World w = now.copy();
            w.things.put(99, new int[] {i, spot % 9, spot / 9, weight});
            int most = 0;
            for (int c = 0; c < 4; c++) {
                most = Math.max(most, loadOf(w, i, c));
            }
            if (best == null || most < best[2]) {
                best = new int[] {spot % 9, spot / 9, most};
            }
        }
        return best[what];
    }

    int stand(int i, int men, int what) {
        List<Integer> four = new ArrayList<>();
        for (int m = 0; m < 32; m++) {
            if ((men >>> m & 1) == 1) {
                four.add(m);
            }
        }
        if (!now.houses.containsKey(i) || what < 0 || what > 5 || four.size() != 4
            || !now.men.keySet().containsAll(four)) {
            return -1;
        }
        long[] best = null;
        for (int a : four) {
            for (int b : four) {
                for (int c : four) {
                    for (int d : four) {
                        if (Set.copyOf(List.of(a, b, c, d)).size() == 4) {
                            long[] row = judged(i, a, b, c, d);
                            best = best == null || row[4] * best[5] < best[4] * row[5] ? row : best;
                        }
                    }
                }
            }
        }
        for (long divisor = 2; divisor <= best[5]; divisor++) {
            while (best[4] % divisor == 0 && best[5] % divisor == 0) {
                best[4] /= divisor;
                best[5] /= divisor;
            }
        }
        return (int) best[what];
    }

    private long[] judged(int i, int... men) {
        long above = 0;
        long below = 1;
        for (int c = 0; c < 4; c++) {
            long load = loadOf(now, i, c);
            long strength = now.men.get(men[c])[0];
            if (load * below > above * strength) {
                above = load;
                below = strength;
            }
        }
        return new long[] {men[0], men[1], men[2], men[3], above, below};
    }

    int go(int i, int what) {
        if (!now.houses.containsKey(i) || what < 0 || what > 1) {
            return -1;
        }
        List<int[]> things = thingsOf(i);
        if (things.size() > 12) {
            return -3;
        }
        for (int number = 0; number <= things.size(); number++) {
            for (int bits = 0; bits < 1 << things.size(); bits++) {
                if (Integer.bitCount(bits) == number && carried(i, things, bits)) {
                    return what == 0 ? number : bits;
                }
            }
        }
        return -2;
    }

    private boolean carried(int i, List<int[]> things, int gone) {
        for (int c = 0; c < 4; c++) {
            int load = loadOf(now, i, c);
            for (int k = 0; k < things.size(); k++) {
                int[] thing = things.get(k);
                load -= (gone >> k & 1) * thing[3] * portion(thing[1], thing[2], c);
            }
            int m = named(now, i, c, 0);
            if (load > (m < 0 ? 0 : 64 * now.men.get(m)[0])) {
                return false;
            }
        }
        return true;
    }

    int felt(int i, int weight, int what) {
        if (!now.houses.containsKey(i) || weight < 1 || weight > 99 || what < 0 || what > 2 || tape.length() < 16) {
            return -1;
        }
        String text = taken(16, 16, 16);
        List<Integer> spots = new ArrayList<>();
        for (int spot = 0; spot < 81; spot++) {
            if (feels(text, i, new int[] {i, spot % 9, spot / 9, weight})) {
                spots.add(spot);
            }
        }
        return feltAnswer(spots, what);
    }

    int twoFelt(int i, int weight, int other, int what) {
        if (!now.houses.containsKey(i) || weight < 1 || weight > 99 || other < 1 || other > 99 || what < 0 || what > 2
            || tape.length() < 16) {
            return -1;
        }
        String text = taken(16, 16, 16);
        List<Integer> spots = new ArrayList<>();
        for (int one = 0; one < 81; one++) {
            for (int two = 0; two < 81; two++) {
                int[] first = {i, one % 9, one / 9, weight};
                if (feels(text, i, first, new int[] {i, two % 9, two / 9, other})) {
                    spots.add(one);
                }
            }
        }
        return feltAnswer(spots, what);
    }

    private boolean feels(String text, int i, int[]... more) {
        for (int c = 0; c < 4; c++) {
            int told = 0;
            for (int k = 0; k < 4; k++) {
                told = told * 256 + text.charAt(4 * c + k);
            }
            for (int[] thing : more) {
                told -= thing[3] * portion(thing[1], thing[2], c);
            }
            if (told != loadOf(now, i, c)) {
                return false;
            }
        }
        return true;
    }

    private static int feltAnswer(List<Integer> spots, int what) {
        if (what == 0) {
            return spots.size();
        }
        return spots.isEmpty() ? -2 : what == 1 ? spots.get(0) % 9 : spots.get(0) / 9;
    }

    // ---- falling ----

    int knocked(int i, boolean toRight) {
        if (!now.up(i)) {
            return -1;
        }
        Set<Integer> over = new HashSet<>();
        fall(i, toRight, over);
        return over.stream().mapToInt(k -> 1 << k).sum();
    }

    private void fall(int i, boolean toRight, Set<Integer> over) {
        over.add(i);
        int[] house = now.houses.get(i);
        for (int k = 0; k < 6; k++) {
            if (now.up(k) && !over.contains(k)) {
                int away = (now.houses.get(k)[1] - house[1]) * (toRight ? 1 : -1);
                if (away > 0 && away <= 3 * house[0]) {
                    fall(k, toRight, over);
                }
            }
        }
    }

    int fewest(int what) {
        if (what < 0 || what > 1) {
            return -1;
        }
        int all = 0;
        for (int i = 0; i < 6; i++) {
            all |= now.up(i) ? 1 << i : 0;
        }
        int best = 63 * 64;
        for (int ways = 0; ways < 729; ways++) {
            int pushed = 0;
            int over = 0;
            int rest = ways;
            for (int i = 0; i < 6; i++, rest /= 3) {
                if (rest % 3 != 0) {
                    pushed |= 1 << i;
                    over |= now.up(i) ? knocked(i, rest % 3 == 1) : 64;
                }
            }
            if (over == all) {
                best = Math.min(best, Integer.bitCount(pushed) * 64 + pushed);
            }
        }
        return what == 0 ? best / 64 : best % 64;
    }

    int strike(int n, int what) {
        if (n < 1 || n > 3 || what < 0 || what > 1) {
            return -1;
        }
        if (now.men.size() < n) {
            return -2;
        }
        int usual = empty(0);
        int most = -1;
        int who = 0;
        for (int bits = 0; bits < 65536; bits++) {
            if (Integer.bitCount(bits) == n && told(bits)) {
                int more = empty(bits) - usual;
                if (more > most) {
                    most = more;
                    who = bits;
                }
            }
        }
        return what == 0 ? most : who;
    }

    private boolean told(int bits) {
        for (int m = 0; m < 16; m++) {
            if ((bits >> m & 1) == 1 && !now.men.containsKey(m)) {
                return false;
            }
        }
        return true;
    }

    private int empty(int strikers) {
        int number = 0;
        for (int k = 0; k < 24; k++) {
            int stood = strikers;
            for (int corner = 0; corner < 24; corner++) {
                if (now.up(corner / 4)) {
                    int m = named(now, corner / 4, corner % 4, k);
                    number += m < 0 || (stood >> m & 1) == 1 ? 1 : 0;
                    stood |= m < 0 ? 0 : 1 << m;
                }
            }
        }
        return number;
    }

    // ---- handiwork ----

    long bricks(int wide, int high) {
        if (wide < 1 || wide > 16 || high < 1 || high > 6) {
            return -1;
        }
        List<Set<Integer>> rows = new ArrayList<>();
        for (int seams = 0; seams < 1 << wide - 1; seams++) {
            Set<Integer> row = new HashSet<>();
            boolean right = true;
            int last = 0;
            for (int at = 1; at <= wide; at++) {
                if (at == wide || (seams >> at - 1 & 1) == 1) {
                    right &= at - last == 2 || at - last == 3;
                    last = at;
                    if (at < wide) {
                        row.add(at);
                    }
                }
            }
            if (right) {
                rows.add(row);
            }
        }
        long sum = 0;
        for (Set<Integer> row : rows) {
            sum += above(rows, row, high - 1, new TreeMap<>());
        }
        return sum;
    }

    private static long above(List<Set<Integer>> rows, Set<Integer> row, int more, Map<String, Long> known) {
        if (more == 0) {
            return 1;
        }
        String key = row + " " + more;
        if (!known.containsKey(key)) {
            long sum = 0;
            for (Set<Integer> next : rows) {
                if (Collections.disjoint(row, next)) {
                    sum += above(rows, next, more - 1, known);
                }
            }
            known.put(key, sum);
        }
        return known.get(key);
    }

    /** Loaves do not pass one another: the k-th from the left goes to where the k-th is to be. */
    int bread(int n) {
        String text = taken(n, 1, 12);
        if (text == null) {
            return -1;
        }
        List<Integer> from = new ArrayList<>();
        for (int k = 0; k < n; k++) {
            from.addAll(Collections.nCopies(text.charAt(k), k));
        }
        List<Integer> to = new ArrayList<>();
        for (int k = 0; k < n; k++) {
            to.addAll(Collections.nCopies(from.size() / n + (k < from.size() % n ? 1 : 0), k));
        }
        int sum = 0;
        for (int k = 0; k < from.size(); k++) {
            sum += Math.abs(from.get(k) - to.get(k));
        }
        return sum;
    }

    int beams(int n) {
        String text = taken(n, 1, 8);
        if (text == null) {
            return -1;
        }
        for (int k = 0; k < n; k++) {
            if (text.charAt(k) == 0 || text.charAt(k) > 99) {
                return -2;
            }
        }
        return cost(text);
    }

    private static int cost(String pieces) {
        if (pieces.length() == 1) {
            return 0;
        }
        int least = Integer.MAX_VALUE;
        for (int k = 1; k < pieces.length(); k++) {
            least = Math.min(least, cost(pieces.substring(0, k)) + cost(pieces.substring(k)));
        }
        return least + pieces.chars().sum();
    }

    int relieved(int i, int c, int what) {
        if (!now.houses.containsKey(i) || c < 0 || c > 3 || what < 0 || what > 3) {
            return -1;
        }
        if (what == 3) {
            return rosters.getOrDefault(4 * i + c, "").length();
        }
        StringBuilder day = new StringBuilder();
        for (int k = 0; k < 24; k++) {
            int m = named(now, i, c, k);
            day.append(m < 0 ? '.' : (char) ('a' + m));
        }
        if (what == 1) {
            return (int) day.chars().filter(sign -> sign == '.').count();
        }
        String[] runs = day.toString().split("(?<=(.))(?!\\1)");
        if (what == 0) {
            return runs.length - 1;
        }
        int longest = 0;
        for (String run : runs) {
            longest = Math.max(longest, run.charAt(0) == '.' ? 0 : run.length());
        }
        return longest;
    }

    boolean seed(int x) {
        if (x < 0 || x > 65535) {
            return false;
        }
        now.x = x;
        return true;
    }

    int keep() {
        kept = now.copy();
        return now.day;
    }

    boolean undo() {
        if (kept == null) {
            return false;
        }
        now = kept.copy();
        return true;
    }

    int check(int n) {
        String text = taken(n, 0, 16);
        if (text == null) {
            return -2;
        }
        for (int m = 0; m < n; m++) {
            if (text.charAt(m) != (now.men.containsKey(m) ? now.men.get(m)[1] : 0)) {
                return m;
            }
        }
        return -1;
    }

    int count(int what) {
        int told = 0;
        int fallen = 0;
        for (int i : now.houses.keySet()) {
            told |= 1 << i;
            fallen |= now.up(i) ? 0 : 1 << i;
        }
        int men = now.men.keySet().stream().mapToInt(m -> 1 << m).sum();
        int[] all = {now.hour, now.day, told, fallen, men, now.things.size(), law.size(), tape.length(), now.x};
        return what >= 0 && what < all.length ? all[what] : -1;
    }
}
