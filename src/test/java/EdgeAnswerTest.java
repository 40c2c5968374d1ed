import java.util.function.IntUnaryOperator;

/** The boundaries that the document names of what is asked: the first and last that there is, and those beside them. */
public final class EdgeAnswerTest {
    private static final Typist T = new Typist();
    private static final int NONE = RegrowDesk.NONE;
    private static final int ABSENT = -2;
    private static final int FAR = Integer.MAX_VALUE;
    private static final int DEEP = Integer.MIN_VALUE;

    private static void due(String call, Object got, Object want) {
        T.due(call, got, want);
    }

    /** None below 0, none from so many on; the first and the last one are there. */
    private static void edges(String call, IntUnaryOperator f, int many, int none) {
        for (int i : new int[] {-1, -2, DEEP, DEEP + 1, many, many + 1, FAR, FAR - 1}) {
            due(call + " of " + i, f.applyAsInt(i), none);
        }
        if (many > 0) {
            due(call + ", the first", f.applyAsInt(0) != none, true);
            due(call + ", the last", f.applyAsInt(many - 1) != none, true);
        }
    }

    private static void each(String call, IntUnaryOperator f, int... want) {
        for (int i = 0; i < want.length; i++) {
            due(call + " " + i, f.applyAsInt(i), want[i]);
        }
    }

    /**
     * "a=1;b=a+2;" in two edits. Nodes: 0 END, 1 the first L, 2 a, 3 =, 4 1, 5 ;, 6 L, 7 P, 8 T, 9 E, 10 S, 11 L; then
     * 12 b, 13 =, 14 a, 15 +, 16 2, 17 ;, 18 L, 19 S(2 3 9 5), 20 L, 21 P, 22 T, 23 E, 24 P, 25 T, 26 E, 27 S, 28 L.
     */
    private static RegrowDesk two() {
        RegrowDesk x = Typist.deskOf("a=1;");
        Typist.edit(x, 4, 0, "b=a+2;");
        return x;
    }

    /** Such a good text, and then another one, which is not. */
    private static RegrowDesk wrongBehind(String good, String wrong) {
        RegrowDesk x = Typist.deskOf(good);
        Typist.edit(x, 0, good.length(), wrong);
        return x;
    }

    // ---- 11 to 13, 28: the text, its tokens, the good ones ----

    private static void textAndTokens() {
        RegrowDesk x = two();
        edges("text", x::text, 10, NONE);
        edges("under", x::under, 10, NONE);
        edges("good", x::good, 11, NONE);
        for (int what = 0; what < 3; what++) {
            int w = what;
            edges("token, what " + w, i -> x.token(i, w), 11, NONE);
        }
        edges("token's what", w -> x.token(0, w), 3, NONE);
        edges("END's what", w -> x.token(10, w), 3, NONE);
        edges("no token's what", w -> x.token(11, w), 0, NONE);
        RegrowDesk none = new RegrowDesk();
        edges("text of none", none::text, 0, NONE);
        edges("under none", none::under, 0, NONE);
        edges("END alone", i -> none.token(i, 0), 1, NONE);
        edges("END alone is good", none::good, 1, NONE);
        RegrowDesk full = Typist.deskOf("#".repeat(99));
        edges("100 tokens", i -> full.token(i, 1), 100, NONE);
        edges("of which one is good", full::good, 1, NONE);
        Typist.edit(full, 99, 0, "\n".repeat(200));
        Typist.edit(full, 299, 0, "\r");
        edges("300 bytes", full::text, 300, NONE);
        edges("under 300 bytes", full::under, 300, NONE);
        due("under the last token", full.under(98), 98);
        due("under the first blank", full.under(99), ABSENT);
        due("under the last blank", full.under(299), ABSENT);
    }

    private static void underTokens() {
        RegrowDesk x = Typist.deskOf("\t abcdefgh =1234 \r;\n");
        each("under", x::under, -2, -2, 0, 0, 0, 0, 0, 0, 0, 0, -2, 1, 2, 2, 2, 2, -2, -2, 3, -2, NONE);
        RegrowDesk y = Typist.deskOf("abcdefghi12345");
        each("under BAD ones", y::under, 0, 1, 1, 1, 1, 1, 1, 1, 1, 2, 3, 3, 3, 3, NONE);
    }

    /** Tokens are of the TEXT, nodes and what names come to are of the last good one, be it longer or shorter. */
    private static void goodBehindWrong() {
        RegrowDesk x = wrongBehind("a=1;b=a+2;", "(");
        edges("tokens of the TEXT", i -> x.token(i, 0), 2, NONE);
        edges("good ones", x::good, 11, NONE);
        edges("above", i -> x.above(i, 1), 11, NONE);
        edges("common", i -> x.common(i, i), 11, NONE);
        edges("path", i -> x.path(i, 0), 10, NONE);
        due("value", x.value(4), 3);
        due("sets", x.sets(6), 1);
        due("uses", x.uses(6), x.run(0));
        due("span", x.span(x.run(1), 0) * 100 + x.span(x.run(1), 1), 406);
        due("counts", x.count(1) * 100 + x.count(3), 211);
        due("END of the good one", x.node(0, 8), 10);
        RegrowDesk y = wrongBehind("a=1;", "a=1;b=a+2;c");
        edges("more tokens", i -> y.token(i, 0), 12, NONE);
        edges("fewer good ones", y::good, 5, NONE);
        due("no such NAME there", y.value(4) + y.sets(4), 0);
        due("nor its use", y.uses(6), NONE);
        due("END of the good one", y.node(0, 8), 4);
        due("runs", y.runs(), 1);
        due("print", Typist.printOf(y), "a=1;");
        due("fresh", y.fresh(), 10);
    }

    // ---- 14, 15, 26, 29: nodes ----

    private static void nodes() {
        RegrowDesk x = two();
        for (int what = 0; what < 9; what++) {
            int w = what;
            edges("node, what " + w, n -> x.node(n, w), 29, -1000);
        }
        for (int node : new int[] {0, 1, 2, 10, 28}) {
            edges("what of " + node, w -> x.node(node, w), 9, -1000);
        }
        edges("no node's what", w -> x.node(29, w), 0, -1000);
        edges("nor below 0", w -> x.node(-1, w), 0, -1000);
        int[] many = {0, 0, 0, 0, 0, 0, 0, 1, 1, 1, 4, 2, 0, 0, 0, 0, 0, 0, 0, 4, 2, 1, 1, 1, 1, 1, 3, 4, 2};
        for (int n = 0; n < many.length; n++) {
            int node = n;
            due("children of " + n, x.node(n, 2), many[n]);
            edges("child of " + n, i -> x.child(node, i), many[n], NONE);
        }
        for (int none : new int[] {-1, 29, 30, FAR, DEEP, 1 << 29, 1 << 30}) {
            edges("child of none: " + none, i -> x.child(none, i), 0, NONE);
            due("beside none: " + none, x.beside(none), ABSENT);
            due("before none: " + none, x.before(none), ABSENT);
        }
        RegrowDesk y = wrongBehind("a=1;", "a=1;b=2;(");
        edges("a WRONG one's nodes are none", n -> y.node(n, 5), 12, -1000);
        edges("the first nodes", n -> new RegrowDesk().node(n, 5), 2, -1000);
    }

    private static void inTheTree() {
        RegrowDesk x = two();
        // 6 is gone: neither in the TREE nor anyone's CHILD there; 2 is in the TREE, 11 was the TREE.
        each("gone, what", w -> x.node(6, w), 0, 0, 0, 0, 0, 1, 0, -2, -2);
        each("was the TREE, what", w -> x.node(11, w), 1, 0, 2, 0, 4, 1, 0, -2, -2);
        each("the TREE, what", w -> x.node(28, w), 1, 0, 2, 0, 10, 2, 1, -2, 0);
        each("the first L, what", w -> x.node(1, w), 0, 0, 0, 0, 0, 0, 0, -2, -2);
        each("L from nothing there, what", w -> x.node(18, w), 0, 0, 0, 0, 0, 2, 1, 20, -2);
        each("last token, what", w -> x.node(17, w), -2, 8, 0, 7, 1, 2, 1, 27, 9);
        each("in the TREE or END", n -> x.node(n, 6), 1, 0, 1, 1, 1, 1, 0, 1, 1, 1, 0, 0, 1, 1, 1, 1, 1, 1, 1, 1, 1, 1, 1,
                1, 1, 1, 1, 1, 1, -1000);
        x.undo();
        each("in the TREE or END then", n -> x.node(n, 6), 1, 0, 1, 1, 1, 1, 1, 1, 1, 1, 1, 1, 0, 0, 0, 0, 0, 0, 0, 0, 0,
                0, 0, 0, 0, 0, 0, 0, 0, -1000);
        each("not yet, what", w -> x.node(28, w), 1, 0, 2, 0, 10, 2, 0, -2, -2);
        each("the TREE again, what", w -> x.node(11, w), 1, 0, 2, 0, 4, 1, 1, -2, 0);
        each("END, what", w -> x.node(0, w), -2, 15, 0, -2, 1, 0, 1, -2, 4);
        due("beside, behind undo", x.beside(6), 10);
        due("before, behind undo", x.before(10), 6);
        due("beside, not there", x.beside(20), ABSENT);
        x.undo();
        each("END alone, what", w -> x.node(0, w), -2, 15, 0, -2, 1, 0, 1, -2, 0);
    }

    /** A node of a TREE that is gone is in none, wherever it was there. */
    private static void inNoTree() {
        RegrowDesk x = Typist.deskOf("a=1;");
        int nodes = x.count(5);
        Typist.edit(x, 0, 4, "b=(2+3)*4{");
        Typist.edit(x, 9, 1, ";");
        int all = x.count(5);
        x.undo();
        x.undo();
        for (int n = nodes; n < all; n++) {
            due("gone: " + n, x.node(n, 6) + " " + x.node(n, 7) + " " + x.node(n, 8), "0 -2 -2");
            due("gone, worth: " + n, x.worth(n), 0);
            due("gone, span: " + n, x.span(n, 0), NONE);
            due("gone, beside: " + n, x.beside(n), ABSENT);
        }
    }

    private static void besideAndBefore() {
        RegrowDesk x = two();
        int[] behind = {13, 26, 17};
        due("behind the first of four", x.beside(12), behind[0]);
        due("the second", x.beside(13), behind[1]);
        due("the third", x.beside(26), behind[2]);
        due("the last", x.beside(17), ABSENT);
        due("ahead of the last of four", x.before(17), 26);
        due("the second", x.before(13), 12);
        due("the first", x.before(12), ABSENT);
        due("an only one", x.beside(24) + x.before(24), 2 * ABSENT);
        due("of two", x.beside(20) * 100 + x.before(27), 2720);
        due("of two, outwards", x.before(20) + x.beside(27), 2 * ABSENT);
        due("the TREE", x.beside(28) + x.before(28), 2 * ABSENT);
        due("END", x.beside(0) + x.before(0), 2 * ABSENT);
        due("gone", x.beside(6) + x.before(10), 2 * ABSENT);
        RegrowDesk y = wrongBehind("a=1;", "((");
        due("of the last good TREE", y.beside(2) * 10 + y.before(3), 32);
    }

    // ---- 16: last ----

    private static void last() {
        RegrowDesk x = new RegrowDesk();
        each("ahead of the first, last", x::last, 0, 0, 0, 0, 0, 0, -2, 0, 0, 0, NONE);
        edges("what", x::last, 10, NONE);
        due("refused", x.edit(1, 0), NONE);
        each("still ahead of the first, last", x::last, 0, 0, 0, 0, 0, 0, -2, 0, 0, 0, NONE);
        x = two();
        each("last", x::last, 4, 1, 1, 17, 3, 21, -2, 6, 2, 1, NONE);
        due("refused", x.cut(2), NONE);
        each("refused one, last", x::last, 4, 1, 1, 17, 3, 21, -2, 6, 2, 1, NONE);
        x.undo();
        x.undo();
        each("undone since, last", x::last, 4, 1, 1, 17, 3, 21, -2, 6, 2, 1, NONE);
        x.redo();
        each("done again, last", x::last, 4, 1, 1, 17, 3, 21, -2, 6, 2, 1, NONE);
        Typist.edit(x, 0, 0, "a=1;;");
        each("WRONG, last", x::last, 4, 1, 1, 0, 0, 7, 4, 5, 0, 0, NONE);
        x.undo();
        each("WRONG and undone since, last", x::last, 4, 1, 1, 0, 0, 7, 4, 5, 0, 0, NONE);
    }

    /** DONE AGAIN: made, or what it reads was something else; 0 is what a NAME is that is not set. */
    private static void doneAgain() {
        again("b=a;", 0, 0, "a=0;", 1, "not set and 0 are the same");
        again("b=a;", 0, 0, "a=1;", 2, "0 and 1 are not");
        again("a=1;b=a;", 0, 4, "", 1, "not set any more");
        again("a=0;b=a;", 0, 4, "", 0, "was 0");
        again("a=1;b=a;", 2, 1, "01", 1, "1 as before");
        again("a=1;b=a;", 2, 1, "2", 2, "another one");
        again("a=1;b=a;c=b;", 2, 1, "2", 3, "and what comes of it");
        again("a=1;b=a*0;c=b;", 2, 1, "2", 2, "but no further");
        again("a=1;b=a;", 8, 0, "c=3;", 2, "b's S is made, for c is behind it");
        again("a=1;b=a;", 8, 0, " ", 0, "nothing");
        again("a=65536;", 0, 8, "", 0, "nothing there");
        again("", 0, 0, "{{}}", 0, "rule 3 is not rule 2");
        again("a=1;{b=a;}", 2, 1, "2", 2, "within");
        again("a=1;", 0, 0, "=", 0, "WRONG");
        RegrowDesk x = Typist.deskOf("a=1;b=a;");
        Typist.edit(x, 2, 1, "2");
        Typist.edit(x, 2, 1, "3");
        x.undo();
        x.undo();
        x.redo();
        due("a is 2 again", x.value(0), 2);
        x.edit(0, 0);
        due("b's S was RUN last when a was 3: undoing and doing again RUNS nothing", x.last(8), 1);
        x.edit(0, 0);
        due("now it was RUN when a was 2", x.last(8), 0);
    }

    private static void again(String good, int at, int n, String bytes, int many, String why) {
        RegrowDesk x = Typist.deskOf(good);
        Typist.edit(x, at, Math.min(n, x.count(0)), bytes);
        due("done again of " + good + " to " + Typist.textOf(x) + " (" + why + ")", x.last(8), many);
    }

    // ---- 17 to 20: what a text that is not good is told ----

    private static void goodOrNot() {
        RegrowDesk x = two();
        each("good, in the way", x::inTheWay, -2, -2, NONE);
        each("good, mend", x::mend, -2, -2, NONE);
        due("good, expected", x.expected(), -2);
        edges("no what in the way", w -> x.inTheWay(w) == NONE ? 7 : 8, 2, 7);
        edges("no what of mend", w -> x.mend(w) == NONE ? 7 : 8, 2, 7);
        RegrowDesk y = wrongBehind("a=1;", "a=1;;");
        edges("what in the way", y::inTheWay, 2, NONE);
        edges("what of mend", w -> y.mend(w) == NONE ? 7 : 8, 2, 7);
        each("can not be mended", y::mend, -2, -2, NONE);
        y.undo();
        each("good again, in the way", y::inTheWay, -2, -2, NONE);
        due("good again, expected", y.expected(), -2);
        y.redo();
        each("not good again, in the way", y::inTheWay, 3, 1, NONE);
        RegrowDesk none = new RegrowDesk();
        each("empty, in the way", none::inTheWay, -2, -2, NONE);
        each("empty, mend", none::mend, -2, -2, NONE);
        due("empty, expected", none.expected(), -2);
    }

    /** Text, first and how many in the way, EXPECTED, token and KIND of MEND. */
    private static void advised(String text, int first, int many, int kinds, int token, int kind) {
        RegrowDesk x = Typist.deskOf(text);
        due(text + ", in the way", x.inTheWay(0) + " " + x.inTheWay(1), first + " " + many);
        due(text + ", expected", x.expected(), kinds);
        due(text + ", mend", x.mend(0) + " " + x.mend(1), token + " " + kind);
    }

    private static void advice() {
        int start = 1 + 256 + 1024;
        int within = 1 + 256 + 512;
        int operand = 1 + 2 + 64;
        int behind = 8 + 16 + 32;
        advised("#", 0, 1, start, -2, -2);
        advised("1", 0, 1, start, -2, -2);
        advised("}", 0, 1, start, 0, 8);
        advised("{", 0, 1, within, 1, 9);
        advised("a", 0, 1, 4, -2, -2);
        advised("a=1", 0, 3, behind, 3, 3);
        advised("=1;", 0, 3, start, 0, 0);
        advised("a=1;}", 4, 1, start, 0, 8);
        advised("{a=1;", 0, 1, within, 1, 9);
        advised("a=1;#b=2;", 4, 1, start, -2, -2);
        advised("a=1;##b=2;", 4, 2, start, -2, -2);
        advised("a=1;a=1", 4, 3, behind, 7, 3);
        advised("a=1 b=2;", 0, 3, behind, 3, 3);
        advised("a=;", 0, 3, operand, 2, 0);
        advised("a=(1;", 2, 1, behind - 8 + 128, 4, 7);
        advised("a=1);", 3, 1, behind, 2, 6);
        advised("a=1+;", 3, 1, operand, 4, 0);
        advised("a=1++2;", 3, 1, operand, 4, 0);
        advised("a=1 1;", 2, 1, behind, 3, 4);
        advised("}{", 0, 2, start, -2, -2);
        advised("{}}", 1, 1, start, 0, 8);
        advised("{{}", 0, 1, within, 1, 9);
        advised("a=b=c;", 0, 2, behind, -2, -2);
    }

    /** "END not" is in the way, "END too" is one ahead of which something is put, "be there 100 tokens or not". */
    private static void adviceOnMost() {
        advised("{".repeat(99), 0, 99, 1 + 256 + 512, -2, -2);
        advised("#".repeat(99), 0, 99, 1 + 256 + 1024, -2, -2);
        advised("{".repeat(50) + "}".repeat(49), 0, 1, 1 + 256 + 512, 1, 9);
        advised("{".repeat(49) + "}".repeat(50), 49, 1, 1 + 256 + 1024, 0, 8);
        advised("{}".repeat(49) + "{", 98, 1, 1 + 256 + 512, 99, 9);
        advised("a=1;".repeat(24) + "a=1", 96, 3, 8 + 16 + 32, 99, 3);
        advised("{}".repeat(48) + ";{}", 96, 1, 1 + 256 + 1024, -2, -2);
        advised("a=" + "(".repeat(48) + "1" + ")".repeat(47) + ";", 2, 1, 16 + 32 + 128, 51, 7);
    }

    // ---- 21 to 25, 30, 31: print, rules, rows, runs ----

    private static void print() {
        RegrowDesk none = new RegrowDesk();
        edges("no print", none::print, 0, NONE);
        RegrowDesk x = two();
        edges("print", x::print, 12, NONE);
        due("print", Typist.printOf(x), "a=1;b=(a+2);");
        String longest = "abcdefgh=1234;abcde=(98*abcdefgi);";
        RegrowDesk z = Typist.deskOf(longest);
        due("the longest NAMES and INTS", Typist.printOf(z), longest);
        RegrowDesk y = Typist.deskOf("a=" + "9999+".repeat(30));
        Typist.edit(y, y.count(0), 0, "9999*".repeat(17) + "9999;");
        due("the longest", y.count(15), 3 + 48 * 4 + 47 * 3);
        edges("its bytes", y::print, 336, NONE);
        due("its first ones", Typist.printOf(y).substring(0, 9 + 24), "a=" + "(".repeat(30) + "9");
        due("its last ones", Typist.printOf(y).substring(330), "999));");
        Typist.edit(y, 0, 1, "");
        edges("of the last good one", y::print, 336, NONE);
        y.undo();
        y.undo();
        edges("of what was ahead of it", y::print, 0, NONE);
    }

    private static void ruled() {
        RegrowDesk none = new RegrowDesk();
        each("rules of nothing", none::ruled, 1, 0, 0, 0, 0, 0, 0, 0, 0, 0, 0, NONE);
        edges("rules", none::ruled, 11, NONE);
        RegrowDesk x = Typist.deskOf("a=(b)*1+2;{}");
        each("rules", x::ruled, 2, 2, 1, 1, 1, 2, 1, 3, 1, 2, 1, NONE);
        x.undo();
        each("rules ahead of it", x::ruled, 1, 0, 0, 0, 0, 0, 0, 0, 0, 0, 0, NONE);
    }

    /** Halves rounded up: how deep the ROW of so many is, and how many PAIRS that makes. */
    private static void rows() {
        int[] deep = {0, 0, 1, 2, 2, 3, 3, 3, 3, 4};
        for (int n = 0; n < 50; n++) {
            RegrowDesk x = Typist.deskOf("{}".repeat(n));
            int want = n < deep.length ? deep[n] : n <= 16 ? 4 : n <= 32 ? 5 : 6;
            due(n + " runs, how deep", x.row(1), want);
            due(n + " runs, PAIRS", x.count(16), Math.max(0, n - 1));
            due(n + " runs, row", x.row(0), n == 0 ? ABSENT : n == 1 ? x.run(0) : 10000 + n - 2);
            due(n + " runs", x.runs(), n);
            edges(n + " runs, run", x::run, n, NONE);
            edges(n + " runs, young", x::young, n, NONE);
            edges(n + " runs, what of row", w -> x.row(w) == NONE ? 7 : 8, 2, 7);
            edges(n + " runs, pair", k -> x.pair(k, 1), Math.max(0, n - 1), NONE);
            due(n + " runs, the row's halves", n < 2 || x.pair(n - 2, 0) == half(x, (n + 1) / 2), true);
            x.edit(0, 0);
            due(n + " runs, none once more", x.count(16) * 100 + x.last(9), Math.max(0, n - 1) * 100);
        }
        RegrowDesk x = two();
        edges("what of a pair", w -> x.pair(0, w), 2, NONE);
        edges("what of none", w -> x.pair(1, w), 0, NONE);
        x.undo();
        edges("PAIRS stay", k -> x.pair(k, 0), 1, NONE);
        due("the row does not", x.row(0) * 10 + x.row(1), 100);
    }

    /** The ROW of the first so many runs: their own PAIRS are made first, one fewer than they are. */
    private static int half(RegrowDesk x, int many) {
        return many == 1 ? x.run(0) : 10000 + many - 2;
    }

    /** Of many PAIRS of one first ROW each is found again. */
    private static void pairsAgain() {
        RegrowDesk x = Typist.deskOf("{}{}");
        Typist.edit(x, 3, 0, "a=1;");
        Typist.edit(x, 5, 1, "2");
        Typist.edit(x, 5, 1, "3");
        int first = x.run(0);
        due("PAIRS", x.count(16), 4);
        each("their first ROW", k -> x.pair(k, 0), first, first, first, first, NONE);
        for (int i = 3; i >= 0; i--) {
            due("row " + i, x.row(0), 10000 + i);
            x.edit(0, 0);
            due("row, laid once more " + i, x.row(0), 10000 + i);
            due("PAIRS made " + i, x.last(9) * 10 + x.count(16), 4);
            x.undo();
            x.undo();
        }
        due("none", x.row(0), ABSENT);
    }

    private static void runs() {
        RegrowDesk x = Typist.deskOf("{a=1;{b=2;}}c=3;{}");
        each("run's first token", i -> x.node(x.run(i), 8), 0, 12, 16);
        due("run of none", x.node(x.run(3), 8), -1000);
        each("young", x::young, 27, 8, 4);
        x.cut(2);
        each("young", x::young, 0, 1, NONE);
        x.undo();
        each("those of the latest are not there", x::young, 0, 0, 0, NONE);
        Typist.edit(x, 0, 0, "#");
        each("a WRONG one made none", x::young, 0, 0, 0, NONE);
    }

    // ---- 27: span ----

    private static void span() {
        RegrowDesk x = two();
        edges("what of the TREE", w -> x.span(28, w), 2, NONE);
        edges("what of a token", w -> x.span(17, w), 2, NONE);
        for (int none : new int[] {-1, 0, 1, 6, 10, 11, 18, 29, FAR, DEEP}) {
            edges("what of " + none, w -> x.span(none, w), 0, NONE);
        }
        each("the first token", w -> x.span(2, w), 0, 1, NONE);
        each("the last one", w -> x.span(17, w), 9, 1, NONE);
        each("the first run", w -> x.span(19, w), 0, 4, NONE);
        each("the last run", w -> x.span(27, w), 4, 6, NONE);
        RegrowDesk y = Typist.deskOf("a" + " ".repeat(150));
        Typist.edit(y, 151, 0, " ".repeat(146) + "=7;");
        each("300 bytes", w -> y.span(y.count(4), w), 0, 300, NONE);
        each("its last byte", w -> y.span(y.good(3), w), 299, 1, NONE);
        each("what is between", w -> y.span(y.above(2, 5), w), 298, 1, NONE);
    }

    // ---- 32, 33: values ----

    private static void wraps() {
        String most = "4634*10*4634*10+9999*8+8055";
        comesTo(most, FAR);
        comesTo(most + "+1", DEEP);
        comesTo(most + "+0", FAR);
        comesTo("(" + most + ")*2", -2);
        comesTo("256*256*256*127", 0x7F000000);
        comesTo("256*256*256*128", DEEP);
        comesTo("256*256*256*256", 0);
        comesTo("256*256*256*255+256*256*255+256*255+255", -1);
        comesTo("256*256*256*255+256*256*255+256*255+256", 0);
        comesTo("0", 0);
        comesTo("0000", 0);
        comesTo("0009", 9);
        comesTo("9999", 9999);
        comesTo("9999*9999", 99980001);
        comesTo("b", 0);
        comesTo("b+1", 1);
    }

    private static void comesTo(String sum, int want) {
        RegrowDesk x = Typist.deskOf("a=" + sum + ";");
        due(sum + " is", x.value(0), want);
        due(sum + " is worth", x.worth(x.child(x.run(0), 2)), want);
    }

    private static void values() {
        RegrowDesk x = two();
        each("value", x::value, 1, 0, 0, 0, 3, 0, 1, 0, 0, 0, 0, 0);
        each("sets", x::sets, 1, 0, 0, 0, 1, 0, 1, 0, 0, 0, 0, 0);
        edges("no such token's value", i -> x.value(i) + (i >= 0 && i < 11 ? 1 : 0), 11, 0);
        edges("no such token's sets", i -> x.sets(i) + (i >= 0 && i < 11 ? 1 : 0), 11, 0);
        // 7 P, 8 T, 9 E of the first 1 are still in the TREE; 10 and 11 are not.
        int[] worth = {0, 0, 0, 0, 0, 0, 0, 1, 1, 1, 0, 0, 0, 0, 0, 0, 0, 0, 0, 0, 0, 1, 1, 1, 2, 2, 3, 0, 0, 0};
        each("worth", x::worth, worth);
        edges("no such node's worth", n -> x.worth(n) + (n >= 0 && n < 29 ? 1 : 0), 29, 0);
        x.undo();
        each("worth ahead of it", x::worth, 0, 0, 0, 0, 0, 0, 0, 1, 1, 1, 0, 0, 0, 0, 0, 0, 0, 0, 0, 0, 0, 0, 0, 0, 0, 0, 0);
        RegrowDesk y = Typist.deskOf("b=a;a=5;");
        due("set when it had been read", y.value(0) * 10 + y.value(2), 5);
        due("worth, all being RUN", y.worth(y.above(2, 8)), 5);
        due("sets of one that was not set yet", y.sets(2), 1);
    }

    // ---- 34, 35, 40: what is above ----

    private static void aboveTokens() {
        RegrowDesk x = two();
        edges("above, token", i -> x.above(i, 1), 11, NONE);
        edges("above, rule", r -> x.above(6, r), 11, NONE);
        edges("above END, rule", r -> x.above(10, r), 11, NONE);
        each("above END", r -> x.above(10, r), -2, -2, -2, -2, -2, -2, -2, -2, -2, -2, -2, NONE);
        each("above the first", r -> x.above(0, r), -2, 20, 19, -2, -2, -2, -2, -2, -2, -2, -2, NONE);
        each("above a", r -> x.above(6, r), -2, 28, 27, -2, 26, 23, -2, 22, 21, -2, -2, NONE);
        each("above the last", r -> x.above(9, r), -2, 28, 27, -2, -2, -2, -2, -2, -2, -2, -2, NONE);
        edges("no token, rule", r -> x.above(11, r), 0, NONE);
        RegrowDesk y = Typist.deskOf("{{a=1;}}");
        due("the lowest of two", y.above(2, 3), y.common(1, 6));
        due("its own", y.above(1, 3), y.common(1, 6));
        due("that of the outer", y.above(0, 3), y.common(0, 7));
    }

    private static void common() {
        RegrowDesk x = two();
        for (int k : new int[] {0, 9, 10}) {
            edges("common with " + k, i -> x.common(i, k), 11, NONE);
            edges(k + " in common", i -> x.common(k, i), 11, NONE);
        }
        for (int none : new int[] {-1, 11, FAR, DEEP}) {
            edges("common with none", i -> x.common(i, none), 0, NONE);
            edges("none in common", i -> x.common(none, i), 0, NONE);
        }
        each("common with the first", i -> x.common(0, i), 2, 19, 19, 19, 28, 28, 28, 28, 28, 28, -2, NONE);
        each("common with the last", i -> x.common(i, 9), 28, 28, 28, 28, 27, 27, 27, 27, 27, 17, -2, NONE);
        each("common with END", i -> x.common(i, 10), -2, -2, -2, -2, -2, -2, -2, -2, -2, -2, 0, NONE);
        each("common with +", i -> x.common(7, i), 28, 28, 28, 28, 27, 27, 26, 15, 26, 27, -2, NONE);
    }

    private static void path() {
        RegrowDesk x = two();
        int[] deep = {4, 4, 7, 4, 3, 3, 7, 4, 6, 3, 0, 0};
        for (int i = 0; i < deep.length; i++) {
            int token = i;
            edges("path to " + i, k -> x.path(token, k), deep[i], NONE);
            due("path to " + i + " begins", x.path(i, 0), deep[i] == 0 ? NONE : 28);
            due("path to " + i + " ends", x.path(i, deep[i] - 1), deep[i] == 0 ? NONE : x.good(i));
        }
        edges("token", i -> x.path(i, 0), 10, NONE);
        edges("END alone", k -> new RegrowDesk().path(0, k), 0, NONE);
        RegrowDesk y = Typist.deskOf("a=" + "(".repeat(47) + "1" + ")".repeat(47) + ";");
        edges("the longest path", k -> y.path(49, k), y.count(11), NONE);
        due("so long", y.count(11), 2 + 48 * 3 + 1);
        RegrowDesk z = Typist.deskOf("{}".repeat(49));
        edges("down to the first", k -> z.path(0, k), 51, NONE);
        due("so long", z.count(11), 51);
        edges("down to the last", k -> z.path(97, k), 3, NONE);
    }

    // ---- 36 to 39, 41: names ----

    private static void uses() {
        RegrowDesk x = two();
        each("uses", x::uses, -2, NONE, NONE, NONE, -2, NONE, 19, NONE, NONE, NONE, NONE, NONE);
        edges("no such token", i -> x.uses(i), 1, NONE);
        RegrowDesk y = Typist.deskOf("a=a;a=a;{a=a;}b=a;");
        each("first", y::uses, -2, NONE, -2);
        due("of the one ahead", y.uses(6), y.run(0));
        due("within", y.uses(11), y.run(1));
        due("behind it", y.uses(16), y.above(11, 2));
        RegrowDesk z = Typist.deskOf("b=a;a=1;");
        due("set behind is not ahead", z.uses(2), ABSENT);
    }

    private static void idle() {
        idle("", 0, -2);
        idle("a=1;", 0, -2);
        idle("a=1;b=1;", 0, -2);
        idle("a=1;a=2;", 1, 0);
        idle("a=1;a=2;a=3;", 2, 0);
        idle("a=1;b=a;a=2;", 0, -2);
        idle("a=1;a=a;", 0, -2);
        idle("a=1;a=a;a=2;", 1, 1);
        idle("b=1;a=1;a=2;b=2;", 2, 0);
        idle("b=1;a=1;a=2;c=b;b=2;", 1, 1);
        idle("a=1;b=b;a=2;", 1, 0);
        idle("a=1;{}a=2;b=a;", 1, 0);
        RegrowDesk x = Typist.deskOf("{a=1;}{a=2;}");
        due("within: first", x.idle(1), x.above(1, 2));
        edges("what", x::idle, 2, NONE);
        RegrowDesk none = new RegrowDesk();
        edges("what of none", w -> none.idle(w) == NONE ? 7 : 8, 2, 7);
    }

    private static void idle(String text, int many, int first) {
        RegrowDesk x = Typist.deskOf(text);
        each(text + " idle", x::idle, many, first < 0 ? first : x.run(first), NONE);
    }

    private static void firmAndAlike() {
        RegrowDesk x = two();
        int[] firm = {-1, -1, -1, -1, -1, -1, -1, 1, 1, 1, -1, -1, -1, -1, -1, -1, -1, -1, -1, -1, -1, 0, 0, 0, 1, 1, 0, -1, -1, -1};
        each("firm", x::firm, firm);
        for (int none : new int[] {-1, 29, FAR, DEEP}) {
            due("firm of none", x.firm(none), NONE);
        }
        for (int n = -1; n < 30; n++) {
            boolean is = n >= 0 && firm[n] >= 0;
            due("alike to itself: " + n, x.alike(n, n), is ? 1 : NONE);
            due("alike to the sum: " + n, x.alike(n, 26), is ? (n == 26 ? 1 : 0) : NONE);
            due("the sum alike to " + n, x.alike(26, n), is ? (n == 26 ? 1 : 0) : NONE);
        }
        x.undo();
        due("not there any more", x.alike(26, 26), NONE);
        due("nor firm or not", x.firm(24), NONE);
        due("but this", x.firm(9) * 10 + x.alike(9, 7), 11);
        RegrowDesk y = Typist.deskOf("a=bc;a=b;a=(b);a=1;a=10;a=1*(0);a=1 *0;a=((1)*0);a=b+c+d;a=b+(c+d);");
        due("an INT and a NAME", y.alike(y.above(16, 5), y.above(6, 5)), 0);
        due("another first byte", y.alike(y.above(6, 5), y.above(16, 5)), 0);
        due("a longer NAME", y.alike(y.above(2, 5), y.above(6, 5)), 0);
        due("brackets", y.alike(y.above(6, 5), y.above(11, 10)), 1);
        due("a longer INT", y.alike(y.above(16, 5), y.above(20, 5)), 0);
        due("product and brackets within", y.alike(y.above(24, 6), y.above(32, 6)), 1);
        due("product and brackets round", y.alike(y.above(32, 6), y.above(38, 5)), 1);
        due("sums laid otherwise", y.alike(y.child(y.run(8), 2), y.child(y.run(9), 2)), 0);
    }

    private static void sets() {
        RegrowDesk x = Typist.deskOf("a=1;{a=b;}a=a;");
        each("sets", x::sets, 3, 0, 0, 0, 0, 3, 0, 0, 0, 0, 3, 0, 3, 0, 0, 0);
        RegrowDesk y = Typist.deskOf("a=1;".repeat(24));
        due("as often as can be", y.sets(92), 24);
    }

    // ---- 42: counts ----

    private static void counts() {
        RegrowDesk x = two();
        edges("count", x::count, 19, NONE);
        each("empty, count", new RegrowDesk()::count, 0, 1, 1, 1, 1, 2, 0, 0, 0, 0, 1, 1, 0, 0, 0, 0, 0, 0, 1, NONE);
        each("count", x::count, 10, 11, 1, 11, 28, 29, 2, 0, 2, 0, 24, 7, 3, 2, 17, 12, 1, 1, 2, NONE);
        Typist.put(x, "z");
        Typist.edit(x, 10, 0, "");
        each("WRONG, count", x::count, 11, 12, 0, 11, 28, 29, 3, 0, 3, 0, 24, 7, 3, 2, 0, 12, 1, 1, 2, NONE);
        x.undo();
        each("undone, count", x::count, 10, 11, 1, 11, 28, 29, 3, 0, 2, 1, 24, 7, 3, 2, 0, 12, 1, 1, 2, NONE);
        x.undo();
        each("undone to the first, count", x::count, 4, 5, 1, 5, 11, 29, 3, 0, 1, 2, 10, 6, 1, 1, 0, 4, 1, 0, 2, NONE);
        x.undo();
        each("undone to none, count", x::count, 0, 1, 1, 1, 1, 29, 3, 0, 0, 3, 1, 1, 0, 0, 0, 0, 1, 0, 1, NONE);
    }

    private static void deepest() {
        int[] deep = {1, 3, 4, 5};
        for (int n = 0; n < deep.length; n++) {
            due(n + " empty ones, how deep", Typist.deskOf("{}".repeat(n)).count(11), deep[n]);
        }
        due("an L from nothing within", Typist.deskOf("{{}}").count(11), 5);
        due("a token", Typist.deskOf("a=1;").count(11), 6);
        due("most within", Typist.deskOf("{".repeat(49) + "}".repeat(49)).count(11), 99);
        RegrowDesk x = Typist.deskOf("a=" + "9999*".repeat(30) + "9999;");
        Typist.edit(x, 2, 0, "9999*".repeat(17));
        due("INTS added", x.count(12), 48 * 9999);
        due("the same once more", Typist.deskOf("a=1+1;").count(12), 2);
        due("NAMES set, unlike", Typist.deskOf("a=1;b=1;a=1;c=d;").count(13), 3);
        due("those of which one begins the other", Typist.deskOf("abcd=1;abcde=1;abc=1;").count(13), 3);
        due("NAMES read", Typist.deskOf("a=b+b;c=b;").count(17), 3);
        due("as many as can be", Typist.deskOf("a=" + "b+".repeat(47) + "b;").count(17), 48);
    }

    public static void main(String[] args) {
        textAndTokens();
        underTokens();
        goodBehindWrong();
        nodes();
        inTheTree();
        inNoTree();
        besideAndBefore();
        last();
        doneAgain();
        goodOrNot();
        advice();
        adviceOnMost();
        print();
        ruled();
        rows();
        pairsAgain();
        runs();
        span();
        wraps();
        values();
        aboveTokens();
        common();
        path();
        uses();
        idle();
        firmAndAlike();
        sets();
        counts();
        deepest();
        T.end("EdgeAnswerTest");
    }
}
