import java.util.ArrayList;
import java.util.Arrays;
import java.util.Collections;
import java.util.HashMap;
import java.util.HashSet;
import java.util.LinkedHashMap;
import java.util.List;
import java.util.Map;
import java.util.Set;

/**
 * A second desk, written word by word after ../shared/DOC.md: slow, with the Java library and with
 * recursion, so that it can hardly have the same faults as the program.
 */
final class DeskOracle {
    static final int NONE = -1;

    // The tables as the document has them.
    private static final String[] LED = {
        "L 1, rule 0", "S 2, NAME 3, { 4", "rule 1", "= 5", "L 6, rule 0",
        "E 7, T 8, P 9, NAME 10, INT 11, ( 12", "S 2, NAME 3, { 4, } 13", "; 14, + 15", "* 16, rule 5",
        "rule 7", "rule 8", "rule 9", "E 17, T 8, P 9, NAME 10, INT 11, ( 12", "rule 3", "rule 2",
        "T 18, P 9, NAME 10, INT 11, ( 12", "P 19, NAME 10, INT 11, ( 12", ") 20, + 15", "* 16, rule 4",
        "rule 6", "rule 10"};
    private static final String[] RULES = {
        "L", "L L S", "S NAME = E ;", "S { L }", "E E + T", "E T", "T T * P", "T P", "P NAME", "P INT", "P ( E )"};
    private static final List<String> SYMBOLS = List.of("L", "S", "E", "T", "P",
            "NAME", "INT", "=", ";", "+", "*", "(", ")", "{", "}", "END", "BAD");

    static final class Node {
        int number;
        int rule = -2;
        int symbol;
        int state = -2;
        int edit;
        String bytes = "";
        final List<Node> children = new ArrayList<>();
        Map<String, Integer> readWhenRun;

        boolean isToken() {
            return rule == -2;
        }

        List<Node> tokens() {
            List<Node> all = new ArrayList<>();
            if (isToken()) {
                all.add(this);
            }
            for (Node c : children) {
                all.addAll(c.tokens());
            }
            return all;
        }

        List<Node> all() {
            List<Node> all = new ArrayList<>();
            all.add(this);
            for (Node c : children) {
                all.addAll(c.all());
            }
            return all;
        }

        int deep() {
            int deep = 0;
            for (Node c : children) {
                deep = Math.max(deep, c.deep());
            }
            return deep + 1;
        }

        String print() {
            if (isToken()) {
                return bytes;
            }
            StringBuilder s = new StringBuilder();
            for (Node c : children) {
                s.append(c.print());
            }
            if (rule == 4 || rule == 6) {
                return "(" + s + ")";
            }
            return rule == 10 ? children.get(1).print() : s.toString();
        }
    }

    record Token(int kind, int start, String bytes) { }

    private static final class State {
        String text = "";
        List<Token> tokens = new ArrayList<>();
        boolean good = true;
        List<Node> goodNodes = new ArrayList<>();
        List<Token> goodTokens = new ArrayList<>();
        Node tree;
    }

    private record Event(boolean isSet, String name, Node statement, Node token) { }

    private String tape = "";
    private final List<Node> nodes = new ArrayList<>();
    private State now = new State();
    private final List<State> undos = new ArrayList<>();
    private final List<State> redos = new ArrayList<>();
    private final Map<String, Integer> pairNumbers = new LinkedHashMap<>();
    private final List<int[]> pairs = new ArrayList<>();
    private int edits;
    private int[] latest = {0, 0, 0, 0, 0, 0, -2, 0, 0, 0};

    // what one running of all has shown
    private Map<String, Integer> env = new HashMap<>();
    private List<Event> events = new ArrayList<>();
    private int doneAgain;

    DeskOracle() {
        now.tokens = read("");
        now.goodTokens = now.tokens;
        Node end = newNode();
        end.symbol = 15;
        Node tree = newNode();
        tree.rule = 0;
        tree.state = 0;
        now.goodNodes.add(end);
        now.tree = tree;
        runAll(false);
    }

    private Node newNode() {
        Node n = new Node();
        n.number = nodes.size();
        n.edit = edits;
        nodes.add(n);
        return n;
    }

    // ---- reading ----

    static List<Token> read(String text) {
        List<Token> tokens = new ArrayList<>();
        int i = 0;
        while (i < text.length()) {
            char c = text.charAt(i);
            if ("\t\n\r ".indexOf(c) >= 0) {
                i++;
                continue;
            }
            String name = run(text, i, 'a', 'z');
            String number = run(text, i, '0', '9');
            String bytes = name.isEmpty() ? number : name;
            int kind = name.isEmpty() ? 1 : 0;
            if (bytes.isEmpty() || name.length() > 8 || number.length() > 4) {
                int sign = "=;+*(){}".indexOf(c);
                kind = bytes.isEmpty() && sign >= 0 ? 2 + sign : 11;
                bytes = "" + c;
            }
            tokens.add(new Token(kind, i, bytes));
            i += bytes.length();
        }
        tokens.add(new Token(10, text.length(), ""));
        return tokens;
    }

    private static String run(String text, int from, char low, char high) {
        int to = from;
        while (to < text.length() && text.charAt(to) >= low && text.charAt(to) <= high) {
            to++;
        }
        return text.substring(from, to);
    }

    private static boolean alike(Token a, Token b) {
        return a.kind == b.kind && a.bytes.equals(b.bytes);
    }

    // ---- the tables ----

    private static int leads(int state, int symbol) {
        for (String part : LED[state].split(", ")) {
            int blank = part.indexOf(' ');
            String what = part.substring(0, blank);
            if (!what.equals("rule") && SYMBOLS.indexOf(what) == symbol) {
                return Integer.parseInt(part.substring(blank + 1));
            }
        }
        return -1;
    }

    private static int ruleOf(int state) {
        int at = LED[state].indexOf("rule ");
        return at < 0 ? -1 : Integer.parseInt(LED[state].substring(at + 5));
    }

    private static int lengthOf(int rule) {
        return RULES[rule].split(" ").length - 1;
    }

    private static int symbolOf(int rule) {
        return SYMBOLS.indexOf(RULES[rule].split(" ")[0]);
    }

    // ---- growing ----

    private int change(String text, boolean byTape) {
        List<Token> read = read(text);
        if (text.length() > 300 || read.size() > 100 || nodes.size() >= 3000 || pairs.size() >= 3900) {
            return NONE;
        }
        if (byTape) {
            tape = "";
        }
        edits++;
        int nodesAhead = nodes.size();
        List<Token> old = now.goodTokens;
        int ahead = 0;
        while (ahead < old.size() - 1 && ahead < read.size() - 1 && alike(old.get(ahead), read.get(ahead))) {
            ahead++;
        }
        int behind = 0;
        while (behind < old.size() - 1 - ahead && behind < read.size() - 1 - ahead
                && alike(old.get(old.size() - 2 - behind), read.get(read.size() - 2 - behind))) {
            behind++;
        }
        List<Node> line = new ArrayList<>();
        Set<Node> kept = new HashSet<>();
        int tokensMade = 0;
        for (int i = 0; i < read.size(); i++) {
            int fromEnd = read.size() - 1 - i;
            if (i < ahead || fromEnd <= behind) {
                Node same = i < ahead ? now.goodNodes.get(i) : now.goodNodes.get(old.size() - 1 - fromEnd);
                line.add(same);
                kept.add(same);
            } else {
                Node made = newNode();
                made.symbol = 5 + read.get(i).kind;
                made.bytes = read.get(i).bytes;
                line.add(made);
                tokensMade++;
            }
        }
        State next = new State();
        next.text = text;
        next.tokens = read;
        int[] told = {ahead, behind + 1, 0, 0, 0, 0, -2, tokensMade, 0, 0};
        Node tree = grow(line, kept, told);
        next.good = tree != null;
        if (next.good) {
            next.goodNodes = line;
            next.goodTokens = read;
            next.tree = tree;
            told[3] = nodes.size() - nodesAhead;
            Set<Node> there = new HashSet<>(tree.all());
            for (Node n : now.tree.all()) {
                told[4] += !n.isToken() && !there.contains(n) ? 1 : 0;
            }
        } else {
            while (nodes.size() > nodesAhead) {
                nodes.remove(nodes.size() - 1);
            }
            next.goodNodes = now.goodNodes;
            next.goodTokens = now.goodTokens;
            next.tree = now.tree;
        }
        undos.add(now);
        if (undos.size() > 20) {
            undos.remove(0);
        }
        redos.clear();
        now = next;
        runAll(next.good);
        if (next.good) {
            told[8] = doneAgain;
            int pairsAhead = pairs.size();
            rowOf(numbers(runNodes()), true);
            told[9] = pairs.size() - pairsAhead;
        }
        latest = told;
        return next.good ? 0 : 1;
    }

    private boolean sound(Node n, List<Node> line) {
        List<Node> own = n.tokens();
        if (own.isEmpty()) {
            return false;
        }
        int at = line.indexOf(own.get(0));
        int wasAt = now.goodNodes.indexOf(own.get(0));
        if (at < 0 || at + own.size() >= line.size()) {
            return false;
        }
        return line.subList(at, at + own.size()).equals(own)
                && line.get(at + own.size()) == now.goodNodes.get(wasAt + own.size());
    }

    private Node grow(List<Node> line, Set<Node> kept, int[] told) {
        List<Node> ruled = new ArrayList<>();
        for (Node n : now.tree.all()) {
            if (!n.isToken() && sound(n, line)) {
                ruled.add(n);
            }
        }
        List<Integer> states = new ArrayList<>(List.of(0));
        List<Node> stack = new ArrayList<>();
        int i = 0;
        while (true) {
            Node next = line.get(i);
            int top = states.get(states.size() - 1);
            Node best = null;
            for (Node n : ruled) {
                // all() tells nodes from above, so of alike ones the first one found is the farthest
                if (kept.contains(next) && n.tokens().get(0) == next && n.state == top
                        && (best == null || n.tokens().size() > best.tokens().size())) {
                    best = n;
                }
            }
            int rule = ruleOf(top);
            if (best != null) {
                stack.add(best);
                states.add(leads(top, best.symbol));
                i += best.tokens().size();
                told[2]++;
            } else if (next.symbol != 15 && leads(top, next.symbol) >= 0) {
                if (next.state == -2) {
                    next.state = top;
                }
                stack.add(next);
                states.add(leads(top, next.symbol));
                i++;
            } else if (rule >= 0) {
                Node made = newNode();
                made.rule = rule;
                made.symbol = symbolOf(rule);
                for (int k = 0; k < lengthOf(rule); k++) {
                    made.children.add(0, stack.remove(stack.size() - 1));
                    states.remove(states.size() - 1);
                }
                made.state = states.get(states.size() - 1);
                stack.add(made);
                states.add(leads(made.state, made.symbol));
            } else if (next.symbol == 15 && top == 1) {
                return stack.get(0);
            } else {
                told[6] = i;
                return null;
            }
            told[5]++;
        }
    }

    // ---- rows ----

    private List<Node> runNodes() {
        List<Node> runs = new ArrayList<>();
        collectRuns(now.tree, runs);
        return runs;
    }

    private static void collectRuns(Node n, List<Node> runs) {
        if (n.symbol == 1) {
            runs.add(n);
            return;
        }
        for (Node c : n.children) {
            collectRuns(c, runs);
        }
    }

    private static List<Integer> numbers(List<Node> list) {
        List<Integer> all = new ArrayList<>();
        for (Node n : list) {
            all.add(n.number);
        }
        return all;
    }

    private int rowOf(List<Integer> runs, boolean make) {
        if (runs.isEmpty()) {
            return -2;
        }
        if (runs.size() == 1) {
            return runs.get(0);
        }
        int half = (int) Math.ceil(runs.size() / 2.0);
        int one = rowOf(runs.subList(0, half), make);
        int two = rowOf(runs.subList(half, runs.size()), make);
        String key = one + " " + two;
        if (!pairNumbers.containsKey(key)) {
            if (!make) {
                throw new IllegalStateException("a row that was never laid");
            }
            pairNumbers.put(key, pairs.size());
            pairs.add(new int[] {one, two});
        }
        return 10000 + pairNumbers.get(key);
    }

    private int deepRow(int row) {
        if (row < 10000) {
            return 0;
        }
        int[] p = pairs.get(row - 10000);
        return 1 + Math.max(deepRow(p[0]), deepRow(p[1]));
    }

    // ---- running ----

    private void runAll(boolean record) {
        env = new HashMap<>();
        events = new ArrayList<>();
        doneAgain = 0;
        runNode(now.tree, record);
    }

    private void runNode(Node n, boolean record) {
        if (n.rule != 2) {
            for (Node c : n.children) {
                runNode(c, record);
            }
            return;
        }
        Map<String, Integer> readNow = new HashMap<>();
        for (Node e : n.children.get(2).all()) {
            if (e.rule == 8) {
                Node token = e.children.get(0);
                readNow.put(token.bytes, env.getOrDefault(token.bytes, 0));
                events.add(new Event(false, token.bytes, n, token));
            }
        }
        if (record) {
            if (n.edit == edits || !readNow.equals(n.readWhenRun)) {
                doneAgain++;
            }
            n.readWhenRun = readNow;
        }
        env.put(n.children.get(0).bytes, worthOf(n.children.get(2)));
        events.add(new Event(true, n.children.get(0).bytes, n, n.children.get(0)));
    }

    private int worthOf(Node n) {
        switch (n.rule) {
            case 4: return worthOf(n.children.get(0)) + worthOf(n.children.get(2));
            case 6: return worthOf(n.children.get(0)) * worthOf(n.children.get(2));
            case 8: return env.getOrDefault(n.children.get(0).bytes, 0);
            case 9: return Integer.parseInt(n.children.get(0).bytes);
            case 10: return worthOf(n.children.get(1));
            default: return worthOf(n.children.get(0));
        }
    }

    // ---- a text from nothing, by going down the rules, not by states ----

    private static final class Descent {
        final List<Integer> kinds;
        int at;
        boolean ranOut;

        Descent(List<Integer> kinds) {
            this.kinds = kinds;
        }

        int peek() {
            if (at >= kinds.size()) {
                ranOut = true;
                return -1;
            }
            return kinds.get(at);
        }

        boolean eat(int kind) {
            if (peek() == kind) {
                at++;
                return true;
            }
            return false;
        }

        boolean list() {
            while (true) {
                int kind = peek();
                if (kind != 0 && kind != 8) {
                    return !ranOut;
                }
                if (!statement()) {
                    return false;
                }
            }
        }

        boolean statement() {
            if (eat(0)) {
                return eat(2) && sum() && eat(3);
            }
            return eat(8) && list() && eat(9);
        }

        boolean sum() {
            do {
                if (!product()) {
                    return false;
                }
            } while (eat(4));
            return true;
        }

        boolean product() {
            do {
                if (!part()) {
                    return false;
                }
            } while (eat(5));
            return true;
        }

        boolean part() {
            return eat(0) || eat(1) || (eat(6) && sum() && eat(7));
        }
    }

    /** Whether all KINDS, END the last of them, are a good text. */
    static boolean isGood(List<Integer> kinds) {
        Descent d = new Descent(kinds);
        return d.list() && d.eat(10) && d.at == kinds.size();
    }

    /** Whether some good text begins so. */
    static boolean couldGoOn(List<Integer> kinds) {
        Descent d = new Descent(kinds);
        boolean read = d.list();
        return !read && d.ranOut && d.at == kinds.size();
    }

    private List<Integer> kinds() {
        List<Integer> kinds = new ArrayList<>();
        for (Token t : now.tokens) {
            kinds.add(t.kind);
        }
        return kinds;
    }

    // ---- the calls ----

    int feed(int a, int b, int c, int d, int e) {
        if (tape.length() > 180) {
            return NONE;
        }
        StringBuilder s = new StringBuilder(tape);
        for (int n : new int[] {a, b, c, d, e}) {
            for (int k = 0; k < 4; k++) {
                s.append((char) (n >>> (24 - 8 * k) & 0xFF));
            }
        }
        tape = s.toString();
        return tape.length();
    }

    int back(int n) {
        if (n < 0 || n > tape.length()) {
            return NONE;
        }
        tape = tape.substring(0, tape.length() - n);
        return tape.length();
    }

    int edit(int at, int n) {
        if (at < 0 || n < 0 || (long) at + n > now.text.length()) {
            return NONE;
        }
        return change(now.text.substring(0, at) + tape + now.text.substring(at + n), true);
    }

    int rename(int i) {
        if (!now.good || i < 0 || i >= now.tokens.size() || now.tokens.get(i).kind != 0
                || !tape.matches("[a-z]{1,8}")) {
            return NONE;
        }
        String text = now.text;
        for (int k = now.tokens.size() - 1; k >= 0; k--) {
            Token t = now.tokens.get(k);
            if (alike(t, now.tokens.get(i))) {
                text = text.substring(0, t.start) + tape + text.substring(t.start + t.bytes.length());
            }
        }
        return change(text, true);
    }

    private int[] runBytes(int i) {
        List<Node> runs = runNodes();
        if (!now.good || i < 0 || i >= runs.size()) {
            return null;
        }
        return bytesOf(runs.get(i));
    }

    private int[] bytesOf(Node n) {
        List<Node> own = n.tokens();
        Token first = now.goodTokens.get(now.goodNodes.indexOf(own.get(0)));
        Token last = now.goodTokens.get(now.goodNodes.indexOf(own.get(own.size() - 1)));
        return new int[] {first.start, last.start + last.bytes.length()};
    }

    int cut(int i) {
        int[] r = runBytes(i);
        return r == null ? NONE : change(now.text.substring(0, r[0]) + now.text.substring(r[1]), false);
    }

    int twin(int i) {
        int[] r = runBytes(i);
        return r == null ? NONE : change(now.text.substring(0, r[1]) + now.text.substring(r[0], r[1])
                + now.text.substring(r[1]), false);
    }

    int swap(int i) {
        int[] r = runBytes(i);
        int[] q = r == null ? null : runBytes(i + 1);
        return q == null ? NONE : change(now.text.substring(0, r[0]) + now.text.substring(q[0], q[1])
                + now.text.substring(r[1], q[0]) + now.text.substring(r[0], r[1])
                + now.text.substring(q[1]), false);
    }

    boolean undo() {
        return step(undos, redos);
    }

    boolean redo() {
        return step(redos, undos);
    }

    private boolean step(List<State> from, List<State> to) {
        if (from.isEmpty()) {
            return false;
        }
        to.add(now);
        now = from.remove(from.size() - 1);
        runAll(false);
        return true;
    }

    int text(int i) {
        return i >= 0 && i < now.text.length() ? now.text.charAt(i) : NONE;
    }

    int token(int i, int what) {
        if (i < 0 || i >= now.tokens.size() || what < 0 || what > 2) {
            return NONE;
        }
        Token t = now.tokens.get(i);
        return new int[] {t.kind, t.start, t.bytes.length()}[what];
    }

    int good(int i) {
        return i >= 0 && i < now.goodNodes.size() ? now.goodNodes.get(i).number : NONE;
    }

    private Node parentIn(Node n) {
        for (Node p : now.tree.all()) {
            if (p.children.contains(n)) {
                return p;
            }
        }
        return null;
    }

    private boolean inTree(int node) {
        return node >= 0 && node < nodes.size() && now.tree.all().contains(nodes.get(node));
    }

    int node(int node, int what) {
        if (node < 0 || node >= nodes.size() || what < 0 || what > 8) {
            return -1000;
        }
        Node n = nodes.get(node);
        switch (what) {
            case 0: return n.rule;
            case 1: return n.symbol;
            case 2: return n.children.size();
            case 3: return n.state;
            case 4: return n.tokens().size();
            case 5: return n.edit;
            case 6: return inTree(node) || now.goodNodes.contains(n) ? 1 : 0;
            case 7: return inTree(node) && parentIn(n) != null ? parentIn(n).number : -2;
            default:
                if (n.symbol == 15) {
                    return now.goodNodes.size() - 1;
                }
                return inTree(node) && !n.tokens().isEmpty() ? now.goodNodes.indexOf(n.tokens().get(0)) : -2;
        }
    }

    int child(int node, int i) {
        if (node < 0 || node >= nodes.size() || i < 0 || i >= nodes.get(node).children.size()) {
            return NONE;
        }
        return nodes.get(node).children.get(i).number;
    }

    int last(int what) {
        return what < 0 || what > 9 ? NONE : latest[what];
    }

    int fresh() {
        int[] told = new int[10];
        State all = now;
        State bare = new State();
        bare.tree = new Node();
        now = bare;
        int nodesAhead = nodes.size();
        List<Node> line = new ArrayList<>();
        for (Node n : all.goodNodes) {
            Node copy = new Node();
            copy.symbol = n.symbol;
            line.add(copy);
        }
        if (grow(line, Collections.emptySet(), told) == null) {
            throw new IllegalStateException("the last good text does not grow from nothing");
        }
        now = all;
        while (nodes.size() > nodesAhead) {
            nodes.remove(nodes.size() - 1);
        }
        return told[5];
    }

    int inTheWay(int what) {
        if (what < 0 || what > 1) {
            return NONE;
        }
        if (now.good) {
            return -2;
        }
        List<Integer> kinds = kinds();
        for (int many = 1; many < kinds.size(); many++) {
            for (int first = 0; first + many < kinds.size(); first++) {
                List<Integer> left = new ArrayList<>(kinds.subList(0, first));
                left.addAll(kinds.subList(first + many, kinds.size()));
                if (isGood(left)) {
                    return what == 0 ? first : many;
                }
            }
        }
        throw new IllegalStateException("a text without any tokens is good");
    }

    int expected() {
        if (now.good) {
            return -2;
        }
        List<Integer> kinds = kinds();
        int wrong = 0;
        while (couldGoOn(kinds.subList(0, wrong + 1))) {
            wrong++;
        }
        int bits = 0;
        for (int kind = 0; kind <= 11; kind++) {
            List<Integer> other = new ArrayList<>(kinds.subList(0, wrong));
            other.add(kind);
            bits |= couldGoOn(other) || kind == 10 && isGood(other) ? 1 << kind : 0;
        }
        return bits;
    }

    int mend(int what) {
        if (what < 0 || what > 1) {
            return NONE;
        }
        if (now.good) {
            return -2;
        }
        List<Integer> kinds = kinds();
        for (int at = 0; at < kinds.size(); at++) {
            for (int kind = 0; kind < 12; kind++) {
                List<Integer> more = new ArrayList<>(kinds);
                more.add(at, kind);
                if (isGood(more)) {
                    return what == 0 ? at : kind;
                }
            }
        }
        return -2;
    }

    int print(int i) {
        String s = now.tree.print();
        return i >= 0 && i < s.length() ? s.charAt(i) : NONE;
    }

    int ruled(int rule) {
        int many = 0;
        for (Node n : now.tree.all()) {
            many += !n.isToken() && n.rule == rule ? 1 : 0;
        }
        return rule < 0 || rule > 10 ? NONE : many;
    }

    int row(int what) {
        int row = rowOf(numbers(runNodes()), false);
        return what == 0 ? row : what == 1 ? deepRow(row) : NONE;
    }

    int pair(int pair, int what) {
        return pair < 0 || pair >= pairs.size() || what < 0 || what > 1 ? NONE : pairs.get(pair)[what];
    }

    private int madeByLatest(Node n) {
        int many = 0;
        for (Node m : n.all()) {
            many += edits > 0 && m.edit == edits ? 1 : 0;
        }
        return many;
    }

    int young(int i) {
        List<Node> runs = runNodes();
        return i < 0 || i >= runs.size() ? NONE : madeByLatest(runs.get(i));
    }

    private int sibling(int node, int step) {
        Node p = inTree(node) ? parentIn(nodes.get(node)) : null;
        if (p == null) {
            return -2;
        }
        int at = p.children.indexOf(nodes.get(node)) + step;
        return at < 0 || at >= p.children.size() ? -2 : p.children.get(at).number;
    }

    int beside(int node) {
        return sibling(node, 1);
    }

    int before(int node) {
        return sibling(node, -1);
    }

    int span(int node, int what) {
        if (!inTree(node) || nodes.get(node).tokens().isEmpty() || what < 0 || what > 1) {
            return NONE;
        }
        int[] r = bytesOf(nodes.get(node));
        return what == 0 ? r[0] : r[1] - r[0];
    }

    int under(int i) {
        if (i < 0 || i >= now.text.length()) {
            return NONE;
        }
        for (int k = 0; k < now.tokens.size(); k++) {
            Token t = now.tokens.get(k);
            if (t.start <= i && i < t.start + t.bytes.length()) {
                return k;
            }
        }
        return -2;
    }

    int runs() {
        return runNodes().size();
    }

    int run(int i) {
        List<Node> runs = runNodes();
        return i < 0 || i >= runs.size() ? NONE : runs.get(i).number;
    }

    private Node nameAt(int i) {
        boolean there = i >= 0 && i < now.goodNodes.size() && now.goodNodes.get(i).symbol == 5;
        return there ? now.goodNodes.get(i) : null;
    }

    int value(int i) {
        return nameAt(i) == null ? 0 : env.getOrDefault(nameAt(i).bytes, 0);
    }

    private boolean isExpression(int node) {
        return inTree(node) && nodes.get(node).symbol >= 2 && nodes.get(node).symbol <= 4;
    }

    int worth(int node) {
        return isExpression(node) ? worthOf(nodes.get(node)) : 0;
    }

    private List<Node> way(Node token) {
        List<Node> way = new ArrayList<>();
        for (Node n : now.tree.all()) {
            if (n.all().contains(token)) {
                way.add(n);
            }
        }
        return way;
    }

    int above(int i, int rule) {
        if (i < 0 || i >= now.goodNodes.size() || rule < 0 || rule > 10) {
            return NONE;
        }
        int found = -2;
        for (Node n : way(now.goodNodes.get(i))) {
            found = !n.isToken() && n.rule == rule ? n.number : found;
        }
        return found;
    }

    int common(int i, int k) {
        int many = now.goodNodes.size();
        if (i < 0 || k < 0 || i >= many || k >= many) {
            return NONE;
        }
        if (i == k) {
            return now.goodNodes.get(i).number;
        }
        List<Node> both = way(now.goodNodes.get(i));
        both.retainAll(way(now.goodNodes.get(k)));
        return both.isEmpty() ? -2 : both.get(both.size() - 1).number;
    }

    int uses(int i) {
        Node token = nameAt(i);
        if (token == null) {
            return NONE;
        }
        int found = -2;
        for (Event e : events) {
            if (e.token == token) {
                return e.isSet ? -2 : found;
            }
            found = e.isSet && e.name.equals(token.bytes) ? e.statement.number : found;
        }
        throw new IllegalStateException("a NAME is read or set");
    }

    int idle(int what) {
        int many = 0;
        int first = -2;
        for (int i = 0; i < events.size(); i++) {
            Event e = events.get(i);
            for (int k = i + 1; e.isSet && k < events.size(); k++) {
                if (events.get(k).name.equals(e.name)) {
                    if (events.get(k).isSet) {
                        first = many == 0 ? e.statement.number : first;
                        many++;
                    }
                    break;
                }
            }
        }
        return what == 0 ? many : what == 1 ? first : NONE;
    }

    int firm(int node) {
        if (!isExpression(node)) {
            return NONE;
        }
        for (Node n : nodes.get(node).all()) {
            if (n.rule == 8) {
                return 0;
            }
        }
        return 1;
    }

    int alike(int node, int other) {
        if (!isExpression(node) || !isExpression(other)) {
            return NONE;
        }
        return nodes.get(node).print().equals(nodes.get(other).print()) ? 1 : 0;
    }

    int path(int i, int k) {
        if (i < 0 || i >= now.goodNodes.size() - 1) {
            return NONE;
        }
        List<Node> way = way(now.goodNodes.get(i));
        return k < 0 || k >= way.size() ? NONE : way.get(k).number;
    }

    int sets(int i) {
        int many = 0;
        for (Event e : events) {
            many += nameAt(i) != null && e.isSet && e.name.equals(nameAt(i).bytes) ? 1 : 0;
        }
        return many;
    }

    int count(int what) {
        List<Node> all = now.tree.all();
        int sum = 0;
        int reads = 0;
        int first = Integer.MAX_VALUE;
        for (Node n : all) {
            sum += n.symbol == 6 ? Integer.parseInt(n.bytes) : 0;
            reads += n.rule == 8 ? 1 : 0;
            first = Math.min(first, n.number);
        }
        int[] told = {now.text.length(), now.tokens.size(), now.good ? 1 : 0, now.goodNodes.size(),
            now.tree.number, nodes.size(), edits, tape.length(), undos.size(), redos.size(),
            all.size(), now.tree.deep(), sum, env.size(), madeByLatest(now.tree),
            now.tree.print().length(), pairs.size(), reads, first};
        return what < 0 || what >= told.length ? NONE : told[what];
    }

    String textNow() {
        return now.text;
    }

    @Override
    public String toString() {
        return "\"" + now.text + "\" " + (now.good ? "good" : "not good") + " " + Arrays.toString(latest);
    }
}
