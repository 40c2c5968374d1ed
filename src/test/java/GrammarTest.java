import java.util.Random;

/**
 * What the RULES alone tell, with no STATES: a reader that goes down from L finds the same texts good, the same
 * token WRONG, the same nodes in the TREE, and the same advice.
 */
public final class GrammarTest {
    private static final Typist T = new Typist();
    private static final String[] SIGNS = {"a", "1", "=", ";", "+", "*", "(", ")", "{", "}", "", "#"};
    private static final int END = 10;

    /** Reads KINDS, END last, and stops at the first one that nothing could follow up to. */
    private static final class Reader {
        final int[] kinds;
        int at;
        boolean stuck;
        final int[] ruled = new int[11];
        int deepest;

        Reader(int[] kinds) {
            this.kinds = kinds;
        }

        boolean isGood() {
            list(1, END);
            return !stuck;
        }

        private void take(int kind, int depth) {
            if (!stuck && at < kinds.length && kinds[at] == kind) {
                at++;
                deepest = Math.max(deepest, depth);
            } else {
                stuck = true;
            }
        }

        private boolean next(int kind) {
            return !stuck && at < kinds.length && kinds[at] == kind;
        }

        /** The last S is right below this L, those ahead of it each one L deeper, and the L from nothing deepest. */
        private void list(int depth, int closing) {
            int many = 0;
            for (int k = at, open = 0; k < kinds.length && kinds[k] != END && open >= 0; k++) {
                open += kinds[k] == 8 ? 1 : kinds[k] == 9 ? -1 : 0;
                many += open == 0 && (kinds[k] == 3 || kinds[k] == 9) ? 1 : 0;
            }
            deepest = Math.max(deepest, depth + many);
            ruled[0]++;
            while (next(0) || next(8)) {
                statement(depth + many);
                many--;
                ruled[1]++;
            }
            if (closing == END && !next(END)) {
                stuck = true;
            }
        }

        private void statement(int depth) {
            if (next(8)) {
                take(8, depth + 1);
                list(depth + 1, 9);
                take(9, depth + 1);
                ruled[3]++;
                return;
            }
            take(0, depth + 1);
            take(2, depth + 1);
            sum(depth + 1);
            take(3, depth + 1);
            ruled[2]++;
        }

        private void sum(int depth) {
            int many = signs(4);
            product(depth + many + 1);
            ruled[5]++;
            for (int k = many; next(4); k--) {
                take(4, depth + k);
                product(depth + k);
                ruled[4]++;
            }
        }

        private void product(int depth) {
            int many = signs(5);
            factor(depth + many + 1);
            ruled[7]++;
            for (int k = many; next(5); k--) {
                take(5, depth + k);
                factor(depth + k);
                ruled[6]++;
            }
        }

        /** How many such signs there are ahead up to where this sum, or product, ends. */
        private int signs(int sign) {
            int many = 0;
            for (int k = at, open = 0; k < kinds.length && open >= 0 && kinds[k] != 3; k++) {
                open += kinds[k] == 6 ? 1 : kinds[k] == 7 ? -1 : 0;
                if (open == 0 && sign == 5 && kinds[k] == 4) {
                    return many;
                }
                many += open == 0 && kinds[k] == sign ? 1 : 0;
            }
            return many;
        }

        private void factor(int depth) {
            if (next(0)) {
                take(0, depth + 1);
                ruled[8]++;
            } else if (next(1)) {
                take(1, depth + 1);
                ruled[9]++;
            } else {
                take(6, depth + 1);
                if (!stuck) {
                    sum(depth + 1);
                    take(7, depth + 1);
                    ruled[10]++;
                }
            }
        }
    }

    private static boolean isGood(int[] kinds) {
        return new Reader(kinds).isGood();
    }

    private static int[] without(int[] kinds, int from, int many) {
        int[] left = new int[kinds.length - many];
        System.arraycopy(kinds, 0, left, 0, from);
        System.arraycopy(kinds, from + many, left, from, kinds.length - from - many);
        return left;
    }

    private static int[] with(int[] kinds, int at, int kind) {
        int[] more = new int[kinds.length + 1];
        System.arraycopy(kinds, 0, more, 0, at);
        more[at] = kind;
        System.arraycopy(kinds, at, more, at + 1, kinds.length - at);
        return more;
    }

    private static String inTheWay(int[] kinds) {
        for (int many = 1; many < kinds.length; many++) {
            for (int from = 0; from + many < kinds.length; from++) {
                if (isGood(without(kinds, from, many))) {
                    return from + " " + many;
                }
            }
        }
        return "none";
    }

    private static String mend(int[] kinds) {
        for (int at = 0; at < kinds.length; at++) {
            for (int kind = 0; kind < END; kind++) {
                if (isGood(with(kinds, at, kind))) {
                    return at + " " + kind;
                }
            }
        }
        return "-2 -2";
    }

    /** A KIND is right in a place if the reader goes on past it, END if nothing is missing. */
    private static int expected(int[] kinds, int wrong) {
        int bits = 0;
        for (int kind = 0; kind <= END; kind++) {
            int[] tried = java.util.Arrays.copyOf(kinds, wrong + 1);
            tried[wrong] = kind;
            Reader reader = new Reader(tried);
            boolean good = reader.isGood();
            bits |= (kind == END ? good : reader.at > wrong) ? 1 << kind : 0;
        }
        return bits;
    }

    private static void check(int[] kinds) {
        StringBuilder text = new StringBuilder();
        for (int kind : kinds) {
            text.append(SIGNS[kind]).append(' ');
        }
        RegrowDesk x = Typist.deskOf(text.toString());
        Reader reader = new Reader(kinds);
        boolean good = reader.isGood();
        T.due(text + "is good", x.count(2) == 1, good);
        if (good) {
            checkTree(text.toString(), x, reader, kinds.length - 1);
            return;
        }
        T.due(text + "the WRONG token", x.last(6), reader.at);
        T.due(text + "in the way", x.inTheWay(0) + " " + x.inTheWay(1), inTheWay(kinds));
        T.due(text + "mend", x.mend(0) + " " + x.mend(1), mend(kinds));
        T.due(text + "expected", x.expected(), expected(kinds, reader.at));
    }

    private static void checkTree(String text, RegrowDesk x, Reader reader, int tokens) {
        int nodes = tokens;
        for (int rule = 0; rule < 11; rule++) {
            T.due(text + "rule " + rule, x.ruled(rule), reader.ruled[rule]);
            nodes += reader.ruled[rule];
        }
        T.due(text + "steps", x.fresh(), nodes);
        T.due(text + "steps of the edit", x.last(5), nodes);
        T.due(text + "nodes", x.count(10), nodes);
        T.due(text + "how deep", x.count(11), reader.deepest);
    }

    /** Good texts, by chance, of some tokens each. */
    private static void grow(StringBuilder s, Random random, int symbol, int depth) {
        int chance = random.nextInt(10);
        if (symbol == 0) {
            for (int i = random.nextInt(depth > 2 ? 2 : 4); i > 0; i--) {
                grow(s, random, 1, depth + 1);
            }
        } else if (symbol == 1) {
            s.append(chance < 7 ? "02" : "8");
            grow(s, random, chance < 7 ? 2 : 0, depth + 1);
            s.append(chance < 7 ? "3" : "9");
        } else if (symbol == 4 || depth > 8) {
            boolean within = chance < 2 && depth < 8;
            s.append(within ? "6" : chance < 6 ? "0" : "1");
            if (within) {
                grow(s, random, 2, depth + 1);
                s.append("7");
            }
        } else {
            grow(s, random, symbol + 1 + symbol / 3, depth + 1);
            while (random.nextInt(3) == 0) {
                s.append(symbol == 2 ? "4" : "5");
                grow(s, random, symbol + 1 + symbol / 3, depth + 1);
            }
        }
    }

    private static int[] kindsOf(CharSequence digits) {
        int many = Math.min(99, digits.length());
        int[] kinds = new int[many + 1];
        for (int i = 0; i < many; i++) {
            kinds[i] = digits.charAt(i) - '0';
        }
        kinds[many] = END;
        return kinds;
    }

    /** All texts of so many tokens at most. */
    private static void allShort() {
        for (int many = 0; many <= 4; many++) {
            int all = (int) Math.pow(10, many);
            for (int n = 0; n < all; n++) {
                StringBuilder s = new StringBuilder(String.valueOf(all + n)).deleteCharAt(0);
                check(kindsOf(s));
            }
        }
    }

    private static void longOnes() {
        Random random = new Random(3);
        for (int i = 0; i < 3000; i++) {
            StringBuilder s = new StringBuilder();
            grow(s, random, 0, 0);
            check(kindsOf(s));
            for (int k = random.nextInt(3); k >= 0 && s.length() < 60; k--) {
                int at = random.nextInt(s.length() + 1);
                s.replace(at, Math.min(s.length(), at + random.nextInt(3)), random.nextBoolean() ? "" : "" + random.nextInt(10));
            }
            int[] kinds = kindsOf(s);
            if (kinds.length > 1 && random.nextInt(9) == 0) {
                kinds[random.nextInt(kinds.length - 1)] = 11;
            }
            check(kinds);
        }
    }

    public static void main(String[] args) {
        allShort();
        longOnes();
        T.end("GrammarTest");
    }
}
