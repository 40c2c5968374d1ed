import java.util.ArrayList;
import java.util.List;
import java.util.Random;

/** Random runs, of fixed seeds, in which the program and the oracle must answer alike. */
public final class OracleTest {
    private static final String[] PIECES = {
        "a=1;", "b=a+2;", "c=a*b+3;", "a=b;", "{a=2;}", "{}", "{ b = 7 ; c = b ; }", "x=(a+b)*(c+1);",
        "d=((1));", "a=a+1;", "q=9999*9999;", "longname=x*longname;", " \n", "y = 2 * 3 + 4 * 5 ;"};
    private static final String[] BITS = {
        "a", "b", "c", "1", "22", "9999", "=", ";", "+", "*", "(", ")", "{", "}", " ", "\t", "#", "A", "toolongname",
        "12345", "+1", "*b", "a=1;", "(2)", "\u0000", "\u00ff", "=3;b", "} {"};

    private static int calls = 0;
    private static int wrong = 0;

    private RegrowDesk desk = new RegrowDesk();
    private DeskOracle oracle = new DeskOracle();
    private final Random random;
    private final List<String> story = new ArrayList<>();

    private OracleTest(long seed) {
        random = new Random(seed);
    }

    private boolean due(String call, int got, int want) {
        calls++;
        if (got != want) {
            wrong++;
            System.out.println(String.join(" | ", story));
            System.out.println("behind this, " + call + " answered " + got + ", due is " + want + ", " + oracle);
        }
        return got == want;
    }

    private void put(String bytes) {
        StringBuilder s = new StringBuilder(bytes);
        while (s.length() % 20 != 0) {
            s.append('!');
        }
        for (int i = 0; i < s.length(); i += 20) {
            int[] n = new int[5];
            for (int k = 0; k < 20; k++) {
                n[k / 4] = n[k / 4] << 8 | s.charAt(i + k);
            }
            due("feed", desk.feed(n[0], n[1], n[2], n[3], n[4]), oracle.feed(n[0], n[1], n[2], n[3], n[4]));
        }
        due("back", desk.back(s.length() - bytes.length()), oracle.back(s.length() - bytes.length()));
        story.add("tape " + bytes);
    }

    private int upTo(int many) {
        return many <= 0 ? 0 : random.nextInt(many);
    }

    private void changeOnce(int wildness) {
        int size = oracle.textNow().length();
        int at = upTo(size + 1);
        int chance = random.nextInt(100);
        if (chance < 22) {
            put(PIECES[upTo(PIECES.length)]);
            at = random.nextBoolean() ? statementStart() : at;
            edit(at, 0);
        } else if (chance < 50) {
            put(BITS[upTo(BITS.length)]);
            edit(at, random.nextInt(3) == 0 ? 0 : upTo(Math.min(6, size - at + 1)));
        } else if (chance < 50 + wildness) {
            edit(at, upTo(Math.min(30, size - at + 1)));
        } else if (chance < 66) {
            tokenForToken();
        } else if (chance < 70) {
            put(new String[] {"z", "a", "b", "renamed", "eightlet", "ninelette", "A", "a1", ""}[upTo(9)]);
            int i = upTo(oracle.count(1) + 1);
            story.add("rename " + i);
            due("rename " + i, desk.rename(i), oracle.rename(i));
            due("back", desk.back(oracle.count(7)), oracle.back(oracle.count(7)));
        } else if (chance < 84) {
            runChange();
        } else if (chance < 93) {
            story.add("undo");
            due("undo", desk.undo() ? 1 : 0, oracle.undo() ? 1 : 0);
        } else {
            story.add("redo");
            due("redo", desk.redo() ? 1 : 0, oracle.redo() ? 1 : 0);
        }
    }

    private int statementStart() {
        int run = upTo(oracle.runs() + 1);
        int start = oracle.span(oracle.run(run), 0);
        return start < 0 ? oracle.textNow().length() : Math.min(start, oracle.textNow().length());
    }

    private void edit(int at, int n) {
        story.add("edit " + at + " " + n);
        due("edit " + at + " " + n, desk.edit(at, n), oracle.edit(at, n));
        if (oracle.count(7) > 0) {
            due("back", desk.back(oracle.count(7)), oracle.back(oracle.count(7)));
        }
    }

    /** An INT for an INT, a NAME for a NAME: the text stays good, and much of it can be taken. */
    private void tokenForToken() {
        int i = upTo(oracle.count(1));
        int kind = oracle.token(i, 0);
        if (kind == 0 || kind == 1) {
            put(random.nextBoolean() ? "" + (char) ('a' + upTo(4)) : kind == 1 ? "" + upTo(30) : "k");
            edit(oracle.token(i, 1), oracle.token(i, 2));
        } else if (kind == 4 || kind == 5) {
            put(kind == 4 ? "*" : "+");
            edit(oracle.token(i, 1), 1);
        }
    }

    private void runChange() {
        int i = upTo(oracle.runs() + 2) - (random.nextInt(20) == 0 ? 1 : 0);
        int which = upTo(3);
        story.add(new String[] {"cut ", "twin ", "swap "}[which] + i);
        if (which == 0) {
            due("cut " + i, desk.cut(i), oracle.cut(i));
        } else if (which == 1) {
            due("twin " + i, desk.twin(i), oracle.twin(i));
        } else {
            due("swap " + i, desk.swap(i), oracle.swap(i));
        }
    }

    private void askSome() {
        for (int what = -1; what <= 19; what++) {
            due("count " + what, desk.count(what), oracle.count(what));
        }
        for (int what = -1; what <= 10; what++) {
            due("last " + what, desk.last(what), oracle.last(what));
            due("ruled " + what, desk.ruled(what), oracle.ruled(what));
        }
        for (int what = -1; what <= 2; what++) {
            due("inTheWay " + what, desk.inTheWay(what), oracle.inTheWay(what));
            due("mend " + what, desk.mend(what), oracle.mend(what));
            due("row " + what, desk.row(what), oracle.row(what));
            due("idle " + what, desk.idle(what), oracle.idle(what));
        }
        due("fresh", desk.fresh(), oracle.fresh());
        due("expected", desk.expected(), oracle.expected());
        due("runs", desk.runs(), oracle.runs());
    }

    private void askAll() {
        for (int i = -1; i <= oracle.count(0); i++) {
            due("text " + i, desk.text(i), oracle.text(i));
            due("under " + i, desk.under(i), oracle.under(i));
        }
        for (int i = -1; i <= oracle.count(15); i++) {
            due("print " + i, desk.print(i), oracle.print(i));
        }
        for (int i = -1; i <= Math.max(oracle.count(1), oracle.count(3)); i++) {
            askToken(i);
        }
        for (int i = -1; i <= oracle.runs(); i++) {
            due("run " + i, desk.run(i), oracle.run(i));
            due("young " + i, desk.young(i), oracle.young(i));
        }
        int nodes = oracle.count(5);
        for (int n = Math.max(-1, nodes - 60); n <= nodes; n++) {
            askNode(n);
        }
        for (int k = 0; k < 60; k++) {
            askNode(upTo(nodes));
            askNode(oracle.path(upTo(oracle.count(3)), upTo(12)));
        }
        for (int k = -1; k <= Math.min(oracle.count(16), 40); k++) {
            int pair = k < 20 ? k : oracle.count(16) - (k - 20);
            due("pair " + pair, desk.pair(pair, k & 1), oracle.pair(pair, k & 1));
        }
    }

    private void askToken(int i) {
        for (int what = -1; what <= 3; what++) {
            due("token " + i + " " + what, desk.token(i, what), oracle.token(i, what));
        }
        due("good " + i, desk.good(i), oracle.good(i));
        due("value " + i, desk.value(i), oracle.value(i));
        due("uses " + i, desk.uses(i), oracle.uses(i));
        due("sets " + i, desk.sets(i), oracle.sets(i));
        int rule = upTo(13) - 1;
        int other = upTo(oracle.count(3) + 2) - 1;
        int k = upTo(14) - 1;
        due("above " + i + " " + rule, desk.above(i, rule), oracle.above(i, rule));
        due("common " + i + " " + other, desk.common(i, other), oracle.common(i, other));
        due("path " + i + " " + k, desk.path(i, k), oracle.path(i, k));
    }

    private void askNode(int n) {
        for (int what = -1; what <= 9; what++) {
            due("node " + n + " " + what, desk.node(n, what), oracle.node(n, what));
        }
        for (int i = -1; i <= 4; i++) {
            due("child " + n + " " + i, desk.child(n, i), oracle.child(n, i));
        }
        due("beside " + n, desk.beside(n), oracle.beside(n));
        due("before " + n, desk.before(n), oracle.before(n));
        due("worth " + n, desk.worth(n), oracle.worth(n));
        due("firm " + n, desk.firm(n), oracle.firm(n));
        for (int what = -1; what <= 2; what++) {
            due("span " + n + " " + what, desk.span(n, what), oracle.span(n, what));
        }
        int other = oracle.path(upTo(oracle.count(3)), 3 + upTo(5));
        due("alike " + n + " " + other, desk.alike(n, other), oracle.alike(n, other));
    }

    private void runThrough(int changes) {
        int wildness = upTo(10);
        for (int i = 0; i < changes && wrong < 20; i++) {
            changeOnce(wildness);
            askSome();
            if (i % 7 == 0) {
                askAll();
            }
            // A long wrong stretch tells little: most often one goes back.
            if (oracle.count(2) == 0 && random.nextInt(3) > 0) {
                story.add("undo");
                due("undo", desk.undo() ? 1 : 0, oracle.undo() ? 1 : 0);
            }
        }
        askAll();
    }

    /** Texts of tokens thrown together, and good ones with a few tokens changed, for what is told of wrong ones. */
    private void adviseOnSoup(int texts) {
        String[] signs = {"a", "b", "1", "=", ";", "+", "*", "(", ")", "{", "}", "#", "a=1;", "(b)", "{}"};
        for (int i = 0; i < texts && wrong < 20; i++) {
            boolean spoilt = random.nextInt(3) > 0;
            StringBuilder s = new StringBuilder();
            int pieces = upTo(spoilt ? 14 : 9);
            for (int k = 0; k < pieces && s.length() < 160; k++) {
                s.append(spoilt ? PIECES[upTo(PIECES.length)] : signs[upTo(signs.length)]).append(' ');
            }
            for (int k = upTo(4); spoilt && k > 0; k--) {
                int at = upTo(s.length() + 1);
                s.replace(at, Math.min(s.length(), at + upTo(3)), signs[upTo(signs.length)]);
            }
            put(s.toString());
            edit(0, oracle.textNow().length());
            askSome();
            story.clear();
        }
    }

    public static void main(String[] args) {
        int runs = args.length > 0 ? Integer.parseInt(args[0]) : 60;
        int from = args.length > 1 ? Integer.parseInt(args[1]) : 0;
        for (int seed = from; seed < from + runs && wrong < 20; seed++) {
            new OracleTest(seed).runThrough(seed % 5 == 0 ? 200 : 60);
            new OracleTest(seed).adviseOnSoup(40);
        }
        System.out.println("OracleTest: " + calls + " calls, " + wrong + " not as due");
        if (wrong != 0) {
            System.exit(1);
        }
    }
}
