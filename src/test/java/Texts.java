import java.util.Random;

/** Random texts of rosters, orders and laws, most of them right, some with a byte or two put wrong. */
final class Texts {
    private final Random random;

    Texts(Random random) {
        this.random = random;
    }

    private int below(int n) {
        return random.nextInt(n);
    }

    private char of(String signs) {
        return signs.charAt(below(signs.length()));
    }

    /** Leaves a text as it is, or cuts it, or changes, adds or takes out some bytes. */
    private String spoilt(String text, String signs, int most) {
        StringBuilder all = new StringBuilder(text);
        int changes = below(3) == 0 ? 1 + below(2) : 0;
        for (int k = 0; k < changes && all.length() > 0; k++) {
            int at = below(all.length());
            switch (below(5)) {
                case 0: all.setCharAt(at, of(signs)); break;
                case 1: all.insert(at, of(signs)); break;
                case 2: all.deleteCharAt(at); break;
                case 3: all.setCharAt(at, (char) below(256)); break;
                default: all.setLength(at); break;
            }
        }
        if (all.length() > most) {
            all.setLength(most);
        }
        return all.length() == 0 ? "." : all.toString();
    }

    String roster() {
        StringBuilder all = new StringBuilder();
        rosterHours(all, 0);
        return spoilt(all.toString(), "abcdefghijklmnop.0123456789()", 40);
    }

    private void rosterHours(StringBuilder all, int depth) {
        int number = 1 + below(depth == 0 ? 5 : 3);
        for (int k = 0; k < number; k++) {
            if (below(3) == 0) {
                all.append((char) ('2' + below(below(4) == 0 ? 8 : 3)));
            }
            if (below(4) == 0 && depth < 2 + below(30) / 29) {
                all.append('(');
                rosterHours(all, depth + 1);
                all.append(')');
            } else {
                all.append(below(6) == 0 ? '.' : (char) ('a' + below(below(3) == 0 ? 16 : 6)));
            }
        }
    }

    /** Orders to men and things that are told, as bits, and now and then to others. */
    String orders(int men, int things, int houses) {
        int lines = below(12) == 0 ? 18 + below(5) : 1 + below(5);
        StringBuilder all = new StringBuilder();
        for (int k = 0; k < lines; k++) {
            if (k > 0) {
                all.append(';');
            }
            if (below(2) == 0 || lines > 10) {
                all.append((char) ('a' + told(men, 16))).append(below(100));
                continue;
            }
            int t = below(30) == 0 ? below(100) : told(things, 24);
            all.append(below(5) == 0 && t < 10 ? "0" + t : "" + t);
            int how = below(8);
            if (how == 0) {
                all.append('!');
            } else if (how < 3) {
                all.append('@').append(told(houses, 6));
            } else {
                all.append('>').append(below(9)).append(below(9));
            }
        }
        return spoilt(all.toString(), "0123456789abcdefghijklmnop>@!;", 120);
    }

    /** One of the bits, most of the time. */
    private int told(int bits, int n) {
        int one = below(n);
        for (int k = 0; k < 30 && (bits >> one & 1) == 0 && below(40) != 0; k++) {
            one = below(n);
        }
        return one;
    }

    String law() {
        int rules = below(20) == 0 ? 15 + below(3) : 1 + below(5);
        StringBuilder all = new StringBuilder();
        for (int k = 0; k < rules; k++) {
            if (k > 0) {
                all.append(';');
            }
            char letter = of("ttyydddx");
            all.append(letter);
            int size = rules > 10 ? 0 : 1 + below(3);
            if (letter != 'x') {
                sum(all, size, 0);
            }
            all.append('(');
            condition(all, size, 1);
            all.append(')');
        }
        return spoilt(all.toString(), "0123456789tydxmsalickghn()[]!&|<>=+-*/%;", 240);
    }

    private int allowed() {
        return below(15) == 0 ? 8 : 6;
    }

    private void condition(StringBuilder all, int size, int open) {
        do {
            do {
                test(all, size, open);
            } while (below(4) == 0 && size > 0 && all.append('&') != null);
        } while (below(4) == 0 && size > 0 && all.append('|') != null);
    }

    private void test(StringBuilder all, int size, int open) {
        int how = below(open > 2 ? 6 : 9);
        if (how == 0 && open < allowed()) {
            all.append('!');
            test(all, size, open + 1);
        } else if (how == 1 && open < allowed() && size > 0) {
            all.append('(');
            condition(all, size - below(2), open + 1);
            all.append(')');
        } else {
            sum(all, size - 1, open);
            all.append(of("<>="));
            sum(all, size - 1, open);
        }
    }

    private void sum(StringBuilder all, int size, int open) {
        int number = size > 0 ? 1 + below(3) : 1 + below(4) / 3;
        for (int k = 0; k < number; k++) {
            if (k > 0) {
                all.append(of("+-*/%"));
            }
            int how = below(open > 2 ? 5 : 10);
            if (how == 0 && open < allowed() && all.length() < 200) {
                all.append('[');
                sum(all, size - 1, open + 1);
                all.append(']');
            } else if (how < 5) {
                all.append(below(12) == 0 ? below(below(9) == 0 ? 200000 : 99999) : below(3) == 0 ? below(100) : below(12));
            } else {
                all.append(of("msalickghn"));
            }
        }
    }
}
