/** Each promise of the document by its number, on small texts whose answers were worked out by hand. */
public final class PromiseTest {
    private static final Typist T = new Typist();
    private static final int NONE = RegrowDesk.NONE;
    private static final int FAR = Integer.MAX_VALUE;
    private static final int DEEP = Integer.MIN_VALUE;

    /**
     * Nodes: 0 END, 1 the first L, 2 a, 3 =, 4 1, 5 ;, 6 L, 7 P, 8 T, 9 E, 10 S, 11 L; by the second edit
     * 12 b, 13 =, 14 a, 15 +, 16 2, 17 ;, 18 L, 19 S(2 3 9 5), 20 L, 21 P, 22 T, 23 E, 24 P, 25 T, 26 E, 27 S, 28 L.
     */
    private static RegrowDesk two() {
        RegrowDesk x = Typist.deskOf("a=1;");
        Typist.edit(x, 4, 0, "b=a+2;");
        return x;
    }

    /** A good text with a text that is not good behind it. */
    private static RegrowDesk wrongBehind(String good, String wrong) {
        RegrowDesk x = Typist.deskOf(good);
        Typist.edit(x, 0, good.length(), wrong);
        return x;
    }

    private static void due(int promise, String call, int got, int want) {
        T.due("promise " + promise + ": " + call, got, want);
    }

    private static void due(int promise, String call, String got, String want) {
        T.due("promise " + promise + ": " + call, got, want);
    }

    private static void newObject() {
        RegrowDesk x = new RegrowDesk();
        int[] counts = {0, 1, 1, 1, 1, 2, 0, 0, 0, 0, 1, 1, 0, 0, 0, 0, 0, 0, 1};
        for (int what = 0; what < counts.length; what++) {
            due(1, "count " + what, x.count(what), counts[what]);
        }
        due(1, "tree's state", x.node(1, 3), 0);
        due(1, "END", x.good(0), 0);
        due(1, "END's state", x.node(0, 3), -2);
    }

    private static void feed() {
        RegrowDesk x = new RegrowDesk();
        due(2, "feed", x.feed(0x41424344, -1, 0, 0x0A0D0920, 0x7A7B7C7D), 20);
        x.edit(0, 0);
        due(2, "bytes", Typist.textOf(x), "ABCD\u00ff\u00ff\u00ff\u00ff\0\0\0\0\n\r\t z{|}");
        for (int i = 1; i <= 10; i++) {
            due(2, "feed " + i, x.feed(1, 2, 3, 4, 5), 20 * i);
        }
        due(2, "feed of a full tape", x.feed(1, 2, 3, 4, 5), NONE);
        due(2, "a full tape", x.count(7), 200);
        x.back(19);
        due(2, "feed of 181", x.feed(1, 2, 3, 4, 5), NONE);
        x.back(1);
        due(2, "feed of 180", x.feed(1, 2, 3, 4, 5), 200);
    }

    private static void back() {
        RegrowDesk x = new RegrowDesk();
        due(3, "back 0 of none", x.back(0), 0);
        due(3, "back 1 of none", x.back(1), NONE);
        Typist.put(x, "abcdefghijklmnopqrst");
        due(3, "back 21", x.back(21), NONE);
        due(3, "back -1", x.back(-1), NONE);
        due(3, "back least", x.back(DEEP), NONE);
        due(3, "back most", x.back(FAR), NONE);
        due(3, "all is there", x.count(7), 20);
        due(3, "back 17", x.back(17), 3);
        x.edit(0, 0);
        due(3, "the first ones stay", Typist.textOf(x), "abc");
    }

    private static void edit() {
        RegrowDesk x = two();
        due(4, "good one", x.count(2), 1);
        due(4, "tape is empty then", x.count(7), 0);
        due(4, "in the midst", Typist.edit(x, 2, 1, "77"), 0);
        due(4, "text", Typist.textOf(x), "a=77;b=a+2;");
        due(4, "not good", Typist.edit(x, 0, 5, ")"), 1);
        due(4, "text", Typist.textOf(x), ")b=a+2;");
        due(4, "good is not", x.count(2), 0);
        int edits = x.count(6);
        Typist.put(x, "q");
        due(4, "at -1", x.edit(-1, 0), NONE);
        due(4, "n -1", x.edit(0, -1), NONE);
        due(4, "at 8", x.edit(8, 0), NONE);
        due(4, "n 8", x.edit(0, 8), NONE);
        due(4, "far", x.edit(FAR, FAR), NONE);
        due(4, "at 1, far", x.edit(1, FAR), NONE);
        due(4, "refused ones are none", x.count(6), edits);
        due(4, "the tape stays", x.count(7), 1);
        x.back(1);
        due(4, "all goes", x.edit(0, 7), 0);
        due(4, "empty text is good", x.count(2), 1);
        due(4, "nothing for nothing", x.edit(0, 0), 0);
        due(4, "which is an edit", x.count(6), edits + 2);
        due(4, "a new L", x.count(4), x.count(5) - 1);
    }

    private static void grown() {
        RegrowDesk x = two();
        due(4, "L L S", x.child(28, 0) * 100 + x.child(28, 1), 2027);
        due(4, "E E + T", x.child(26, 0) * 10000 + x.child(26, 1) * 100 + x.child(26, 2), 231525);
        due(4, "S with the E that was taken", x.child(19, 2), 9);
        due(4, "and tokens that were kept", x.child(19, 0) * 10 + x.child(19, 3), 25);
        Typist.edit(x, 8, 1, "9");
        // 2 -> 9: L of the first statement is taken, then b = put, E of a taken up to '+'.
        int[] told = {8, 2, 2, 6, 5, 12, -2, 1, 1, 1};
        for (int what = 0; what < told.length; what++) {
            due(4, "growing again " + what, x.last(what), told[what]);
        }
        due(4, "L taken", x.child(x.count(4), 0), 20);
        x.edit(0, 0);
        due(4, "all is taken", x.last(2) * 1000 + x.last(5), 1001);
        due(4, "so is no node made", x.last(3), 0);
        RegrowDesk y = Typist.deskOf("a=(1+2)*3;");
        Typist.edit(y, 8, 1, "4");
        // The brackets are one T followed by '*' as before, begun in state 5.
        due(4, "brackets taken as a T", y.last(2), 1);
        due(4, "its tokens", y.last(0), 8);
        Typist.edit(y, 7, 2, "");
        // "a=(1+2);": now ';' comes behind ')', so only what is in the brackets can be taken.
        due(4, "ending otherwise", y.last(2), 1);
        due(4, "ends well", y.value(0), 3);
    }

    private static void rename() {
        RegrowDesk x = two();
        due(5, "empty tape", x.rename(0), NONE);
        Typist.put(x, "alphabet");
        due(5, "no token", x.rename(11), NONE);
        due(5, "END", x.rename(10), NONE);
        due(5, "a sign", x.rename(1), NONE);
        due(5, "an INT", x.rename(2), NONE);
        due(5, "below 0", x.rename(-1), NONE);
        due(5, "a NAME", x.rename(6), 0);
        due(5, "all alike", Typist.textOf(x), "alphabet=1;b=alphabet+2;");
        due(5, "tape", x.count(7), 0);
        for (String bad : new String[] {"ninelette", "A", "a1", "a b", "{", "\u00e1"}) {
            Typist.put(x, bad);
            due(5, bad, x.rename(0), NONE);
            due(5, bad + " stays", x.back(0), bad.length());
            x.back(bad.length());
        }
        Typist.put(x, "b");
        due(5, "to a NAME that is there", x.rename(0), 0);
        due(5, "sets", x.sets(0), 2);
        RegrowDesk y = wrongBehind("a=1;", "a=;");
        Typist.put(y, "b");
        due(5, "not good", y.rename(0), NONE);
        due(5, "tape stays", y.count(7), 1);
    }

    private static void cut() {
        RegrowDesk x = Typist.deskOf(" a=1; {b=2;} c=3; ");
        Typist.put(x, "zz");
        due(6, "cut -1", x.cut(-1), NONE);
        due(6, "cut 3", x.cut(3), NONE);
        due(6, "cut 1", x.cut(1), 0);
        due(6, "blanks stay", Typist.textOf(x), " a=1;  c=3; ");
        due(6, "tape stays", x.count(7), 2);
        due(6, "cut 1", x.cut(1), 0);
        due(6, "cut 0", x.cut(0), 0);
        due(6, "only blanks", Typist.textOf(x), "    ");
        due(6, "no such run", x.cut(0), NONE);
        due(6, "edits", x.count(6), 4);
        due(6, "not good", wrongBehind("a=1;", "a").cut(0), NONE);
    }

    private static void twin() {
        RegrowDesk x = Typist.deskOf("a=1 ;{ } ");
        Typist.put(x, "zz");
        due(7, "twin 2", x.twin(2), NONE);
        due(7, "twin -1", x.twin(-1), NONE);
        due(7, "twin 1", x.twin(1), 0);
        due(7, "twin 0", x.twin(0), 0);
        due(7, "text", Typist.textOf(x), "a=1 ;a=1 ;{ }{ } ");
        due(7, "tape stays", x.count(7), 2);
        due(7, "not good", wrongBehind("a=1;", "a").twin(0), NONE);
        RegrowDesk y = Typist.deskOf("{" + " ".repeat(160) + "}");
        due(7, "too many bytes", y.twin(0), NONE);
        due(7, "nothing happens", y.count(6), 1);
    }

    private static void swap() {
        RegrowDesk x = Typist.deskOf("a=1; {b=2;}\n cc=33;");
        Typist.put(x, "zz");
        due(8, "the last", x.swap(2), NONE);
        due(8, "none", x.swap(3), NONE);
        due(8, "below 0", x.swap(-1), NONE);
        due(8, "far", x.swap(FAR), NONE);
        due(8, "swap 1", x.swap(1), 0);
        due(8, "text", Typist.textOf(x), "a=1; cc=33;\n {b=2;}");
        due(8, "swap 0", x.swap(0), 0);
        due(8, "text", Typist.textOf(x), "cc=33; a=1;\n {b=2;}");
        due(8, "tape stays", x.count(7), 2);
        due(8, "not good", wrongBehind("a=1;b=1;", "a").swap(0), NONE);
    }

    private static void undoRedo() {
        RegrowDesk x = two();
        due(9, "nothing undone", x.redo() ? 1 : 0, 0);
        Typist.edit(x, 0, 10, "a=;");
        due(9, "not good", x.count(2), 0);
        Typist.put(x, "q");
        due(9, "undo", x.undo() ? 1 : 0, 1);
        due(9, "text", Typist.textOf(x), "a=1;b=a+2;");
        due(9, "good", x.count(2), 1);
        due(9, "tape stays", x.count(7), 1);
        due(9, "undo", x.undo() ? 1 : 0, 1);
        due(9, "tree", x.count(4), 11);
        due(9, "nodes stay", x.count(5), 29);
        due(9, "value", x.value(0), 1);
        due(9, "print", Typist.printOf(x), "a=1;");
        due(9, "the latest is still told", x.last(6), 2);
        due(10, "redo", x.redo() ? 1 : 0, 1);
        due(10, "tree", x.count(4), 28);
        due(10, "redo", x.redo() ? 1 : 0, 1);
        due(10, "text", Typist.textOf(x), "a=;");
        due(10, "not good", x.count(2), 0);
        due(10, "no more", x.redo() ? 1 : 0, 0);
        due(9, "undo", x.undo() ? 1 : 0, 1);
        due(9, "undo", x.undo() ? 1 : 0, 1);
        due(9, "undo", x.undo() ? 1 : 0, 1);
        due(9, "first tree", x.count(4), 1);
        due(9, "no more", x.undo() ? 1 : 0, 0);
        due(10, "counts", x.count(8) * 10 + x.count(9), 3);
        x.redo();
        x.back(1);
        Typist.edit(x, 2, 1, "5");
        due(10, "an edit ends it", x.redo() ? 1 : 0, 0);
        due(10, "counts", x.count(8) * 10 + x.count(9), 20);
        for (int i = 0; i < 30; i++) {
            Typist.edit(x, 2, 1, "" + i % 10);
        }
        due(9, "at most", x.count(8), 20);
        for (int i = 0; i < 20; i++) {
            due(9, "undo " + i, x.undo() ? 1 : 0, 1);
        }
        due(9, "no more", x.undo() ? 1 : 0, 0);
        due(9, "text", Typist.textOf(x), "a=9;");
        for (int i = 0; i < 20; i++) {
            due(10, "redo " + i, x.redo() ? 1 : 0, 1);
        }
        due(10, "text", Typist.textOf(x), "a=9;");
        due(10, "no more", x.redo() ? 1 : 0, 0);
    }

    private static void text() {
        RegrowDesk x = Typist.deskOf("a=\u00ff");
        due(11, "text 0", x.text(0), 'a');
        due(11, "text 2", x.text(2), 255);
        due(11, "text 3", x.text(3), NONE);
        due(11, "text -1", x.text(-1), NONE);
        due(11, "text far", x.text(FAR) + x.text(DEEP), 2 * NONE);
    }

    private static void token() {
        RegrowDesk x = Typist.deskOf(" ab1=;+*(){}\tA abcdefghij 12345\n");
        int[] kinds = {0, 1, 2, 3, 4, 5, 6, 7, 8, 9, 11, 11, 11, 0, 11, 1, 10};
        int[] starts = {1, 3, 4, 5, 6, 7, 8, 9, 10, 11, 13, 15, 16, 17, 26, 27, 32};
        int[] lengths = {2, 1, 1, 1, 1, 1, 1, 1, 1, 1, 1, 1, 1, 8, 1, 4, 0};
        for (int i = 0; i < kinds.length; i++) {
            due(12, "kind " + i, x.token(i, 0), kinds[i]);
            due(12, "start " + i, x.token(i, 1), starts[i]);
            due(12, "bytes " + i, x.token(i, 2), lengths[i]);
        }
        due(12, "none", x.token(17, 0), NONE);
        due(12, "below 0", x.token(-1, 0), NONE);
        due(12, "what 3", x.token(0, 3), NONE);
        due(12, "what -1", x.token(0, -1), NONE);
        due(12, "far", x.token(FAR, DEEP), NONE);
        RegrowDesk y = Typist.deskOf("az`{:09/");
        int[] edges = {0, 11, 8, 11, 1, 11, 10};
        for (int i = 0; i < edges.length; i++) {
            due(12, "first and last letters and digits " + i, y.token(i, 0), edges[i]);
        }
        due(12, "exactly 8 and 4", Typist.deskOf("abcdefgh=1234;").count(1), 5);
    }

    private static void good() {
        RegrowDesk x = two();
        due(13, "kept", x.good(0), 2);
        due(13, "made", x.good(4), 12);
        due(13, "END", x.good(10), 0);
        due(13, "none", x.good(11), NONE);
        due(13, "below 0", x.good(-1), NONE);
        Typist.edit(x, 0, 10, ";");
        due(13, "the last good one", x.good(9), 17);
    }

    private static void node() {
        RegrowDesk x = two();
        int[] rule = {2, 1, 4, 1, 10, 2, -2, 28, 4};
        int[] plus = {-2, 9, 0, 7, 1, 2, 1, 26, 7};
        int[] gone = {2, 1, 4, 1, 4, 1, 0, -2, -2};
        int[] tree = {1, 0, 2, 0, 10, 2, 1, -2, 0};
        int[] end = {-2, 15, 0, -2, 1, 0, 1, -2, 10};
        int[] nothing = {0, 0, 0, 0, 0, 2, 1, 20, -2};
        rule[4] = 6;
        rule[6] = 1;
        for (int what = 0; what < 9; what++) {
            due(14, "S " + what, x.node(27, what), rule[what]);
            due(14, "+ " + what, x.node(15, what), plus[what]);
            due(14, "the S that was " + what, x.node(10, what), gone[what]);
            due(14, "tree " + what, x.node(28, what), tree[what]);
            due(14, "END " + what, x.node(0, what), end[what]);
            due(14, "L from nothing " + what, x.node(18, what), nothing[what]);
        }
        due(14, "kept token's state", x.node(2, 3), 1);
        due(14, "none", x.node(29, 0), -1000);
        due(14, "below 0", x.node(-1, 0), -1000);
        due(14, "what 9", x.node(0, 9), -1000);
        due(14, "what -1", x.node(0, -1), -1000);
        Typist.edit(x, 0, 10, "qq qq");
        due(14, "a wrong edit's nodes are none", x.node(29, 0), -1000);
        due(14, "tree stays", x.node(28, 6), 1);
        Typist.edit(x, 0, 5, "q=4;");
        due(14, "numbers come again", x.node(29, 1), 5);
        due(14, "made by", x.node(29, 5), 4);
    }

    private static void child() {
        RegrowDesk x = two();
        due(15, "first", x.child(27, 0), 12);
        due(15, "last", x.child(27, 3), 17);
        due(15, "behind", x.child(27, 4), NONE);
        due(15, "below 0", x.child(27, -1), NONE);
        due(15, "of one not in the tree", x.child(10, 2), 9);
        due(15, "of a token", x.child(2, 0), NONE);
        due(15, "of L from nothing", x.child(1, 0), NONE);
        due(15, "of none", x.child(29, 0) + x.child(-1, 0) + x.child(FAR, 0), 3 * NONE);
    }

    private static void last() {
        RegrowDesk x = new RegrowDesk();
        for (int what = 0; what < 10; what++) {
            due(16, "ahead of the first " + what, x.last(what), what == 6 ? -2 : 0);
        }
        due(16, "what 10", x.last(10), NONE);
        due(16, "what -1", x.last(-1), NONE);
        x = two();
        int[] told = {4, 1, 1, 17, 3, 21, -2, 6, 2, 1};
        for (int what = 0; what < 10; what++) {
            due(16, "what " + what, x.last(what), told[what]);
        }
        // "a=1;b=a+ +2;": all up to '+' as it was, then the other '+' is wrong.
        Typist.edit(x, 8, 0, " + ");
        int[] wrong = {8, 3, 2, 0, 0, 5, 8, 1, 0, 0};
        for (int what = 0; what < 10; what++) {
            due(16, "wrong one " + what, x.last(what), wrong[what]);
        }
        x.undo();
        due(16, "undone since", x.last(6), 8);
        x = Typist.deskOf("a=1;b=a;c=b;");
        Typist.edit(x, 2, 1, "0+1");
        due(16, "b reads the same", x.last(8), 1);
        Typist.edit(x, 4, 1, "2");
        due(16, "b and c read another", x.last(8), 3);
        x.undo();
        // b was 2 when c was RUN last, though that was undone.
        Typist.edit(x, x.count(0), 0, "d=1;");
        due(16, "RUN last, undone since", x.last(8), 3);
    }

    private static void fresh() {
        RegrowDesk x = two();
        due(17, "fresh", x.fresh(), 24);
        Typist.edit(x, 0, 10, ";;");
        due(17, "of the last good one", x.fresh(), 24);
        x.edit(0, 2);
        due(17, "of nothing", x.fresh(), 1);
        due(17, "of brackets", Typist.deskOf("{a=(1);}").fresh(), 20);
    }

    private static void inTheWay() {
        due(18, "good", two().inTheWay(0), -2);
        due(18, "good", two().inTheWay(1), -2);
        due(18, "what 2", two().inTheWay(2), NONE);
        way("a=1;;", 3, 1);
        way("a=1", 0, 3);
        way("a=1;b", 4, 1);
        way("}a=1;{", 0, 6);
        way("a==1;", 1, 1);
        way("a=1+;", 3, 1);
        way("a=(1;", 2, 1);
        way("#", 0, 1);
        way("a=1;{b=2;", 4, 1);
        way("a=((1)+(2);", 2, 1);
        due(18, "what -1", Typist.deskOf("a").inTheWay(-1), NONE);
    }

    private static void way(String text, int first, int many) {
        RegrowDesk x = Typist.deskOf(text);
        due(18, text + " first", x.inTheWay(0), first);
        due(18, text + " many", x.inTheWay(1), many);
        due(18, text + " what 2", x.inTheWay(2), NONE);
    }

    private static void expected() {
        due(19, "good", two().expected(), -2);
        due(19, "nothing", Typist.deskOf(";").expected(), 1 + 256 + 1024);
        due(19, "within {", Typist.deskOf("{;").expected(), 1 + 256 + 512);
        due(19, "behind a NAME", Typist.deskOf("a;").expected(), 4);
        due(19, "behind =", Typist.deskOf("a=").expected(), 1 + 2 + 64);
        due(19, "behind E", Typist.deskOf("a=1)").expected(), 8 + 16 + 32);
        due(19, "within (", Typist.deskOf("a=(1;").expected(), 16 + 32 + 128);
        due(19, "behind )", Typist.deskOf("a=(1)=").expected(), 8 + 16 + 32);
        due(19, "END in the way", Typist.deskOf("{a=1;").expected(), 1 + 256 + 512);
    }

    private static void mend() {
        due(20, "good", two().mend(0), -2);
        due(20, "what 2", two().mend(2), NONE);
        mended("a=1", 3, 3);
        mended("a 1;", 1, 2);
        mended("a=;", 2, 0);
        mended("a=1+;", 4, 0);
        mended("a=(1;", 4, 7);
        mended("a=1);", 2, 6);
        mended("{a=1;", 1, 9);
        mended("}", 0, 8);
        mended("=1;", 0, 0);
        mended("a=b c;", 3, 4);
        mended(";", -2, -2);
        mended("#", -2, -2);
        RegrowDesk x = Typist.deskOf("a=1;".repeat(24) + "b=2");
        due(20, "be there 100 tokens", x.count(1), 100);
        due(20, "or not", x.mend(0) * 10 + x.mend(1), 993);
    }

    private static void mended(String text, int token, int kind) {
        RegrowDesk x = Typist.deskOf(text);
        due(20, text + " token", x.mend(0), token);
        due(20, text + " kind", x.mend(1), kind);
        due(20, text + " what -1", x.mend(-1), NONE);
    }

    private static void print() {
        RegrowDesk x = Typist.deskOf(" a = (1 + 2) * 3 + b*c;{ {} d=((007));\n}");
        due(21, "print", Typist.printOf(x), "a=(((1+2)*3)+(b*c));{{}d=007;}");
        due(21, "behind", x.print(x.count(15)), NONE);
        due(21, "below 0", x.print(-1), NONE);
        int node = x.above(2, 4);
        x.alike(node, node);
        due(21, "the same behind other calls", Typist.printOf(x), "a=(((1+2)*3)+(b*c));{{}d=007;}");
        Typist.edit(x, 0, 0, "(");
        due(21, "of the last good one", x.print(0), 'a');
    }

    private static void ruled() {
        RegrowDesk x = Typist.deskOf("a=(1+2)*3+b;{}");
        int[] many = {2, 2, 1, 1, 2, 2, 1, 4, 1, 3, 1};
        for (int rule = 0; rule < many.length; rule++) {
            due(22, "rule " + rule, x.ruled(rule), many[rule]);
        }
        due(22, "none", x.ruled(11) + x.ruled(-1) + x.ruled(FAR), 3 * NONE);
    }

    private static void rows() {
        RegrowDesk x = two();
        due(23, "row", x.row(0), 10000);
        due(23, "deep", x.row(1), 1);
        due(24, "pair", x.pair(0, 0) * 100 + x.pair(0, 1), 1927);
        due(23, "what 2", x.row(2), NONE);
        due(23, "what -1", x.row(-1), NONE);
        due(24, "what 2", x.pair(0, 2), NONE);
        due(24, "what -1", x.pair(0, -1), NONE);
        due(24, "none", x.pair(1, 0) + x.pair(-1, 0), 2 * NONE);
        x.undo();
        due(23, "one run", x.row(0) * 10 + x.row(1), 100);
        due(24, "stays", x.pair(0, 0), 19);
        x.undo();
        due(23, "no runs", x.row(0) * 10 + x.row(1), -20);
        RegrowDesk y = Typist.deskOf("{}{}{}{}{}");
        // Halves of 3 and 2, 2 and 1, 1 and 1: the first half's PAIRS are made first.
        due(23, "five", y.row(0), 10003);
        due(23, "five, deep", y.row(1), 3);
        due(24, "pair 0", y.pair(0, 0) == y.run(0) && y.pair(0, 1) == y.run(1) ? 1 : 0, 1);
        due(24, "pair 1", y.pair(1, 0) == 10000 && y.pair(1, 1) == y.run(2) ? 1 : 0, 1);
        due(24, "pair 2", y.pair(2, 0) == y.run(3) && y.pair(2, 1) == y.run(4) ? 1 : 0, 1);
        due(24, "pair 3", y.pair(3, 0) * 3 + y.pair(3, 1), 40005);
        y.edit(0, 0);
        due(24, "not once more", y.count(16), 4);
        due(23, "the same", y.row(0), 10003);
        Typist.edit(y, 0, 0, ";");
        due(23, "of the last good one", y.row(0), 10003);
    }

    private static void young() {
        RegrowDesk x = two();
        due(25, "S made again", x.young(0), 1);
        due(25, "S of tokens made", x.young(1), 13);
        due(25, "none", x.young(2) + x.young(-1), 2 * NONE);
        Typist.edit(x, 8, 1, "3");
        due(25, "taken", x.young(0), 0);
        due(25, "3, P, T, E, S", x.young(1), 5);
        x.undo();
        due(25, "undone", x.young(1), 0);
        x.redo();
        due(25, "done again", x.young(1), 5);
        Typist.edit(x, 0, 0, ";");
        due(25, "a wrong one made none", x.young(1), 0);
    }

    private static void siblings() {
        RegrowDesk x = two();
        due(26, "behind b", x.beside(12), 13);
        due(26, "behind ;", x.beside(17), -2);
        due(26, "behind L", x.beside(20), 27);
        due(26, "behind the tree", x.beside(28), -2);
        due(26, "behind the only one", x.beside(24), -2);
        due(26, "not in the tree", x.beside(6), -2);
        due(26, "END", x.beside(0), -2);
        due(26, "none", x.beside(29) + x.beside(-1) + x.beside(FAR), -6);
        due(29, "ahead of =", x.before(13), 12);
        due(29, "ahead of b", x.before(12), -2);
        due(29, "ahead of S", x.before(27), 20);
        due(29, "ahead of the tree", x.before(28), -2);
        due(29, "not in the tree", x.before(10), -2);
        due(29, "END", x.before(0), -2);
        due(29, "none", x.before(29) + x.before(-1) + x.before(DEEP), -6);
    }

    private static void span() {
        RegrowDesk x = Typist.deskOf(" a = 12 ; bb = ( a ) ;  ");
        due(27, "tree's place", x.span(x.count(4), 0), 1);
        due(27, "tree's bytes", x.span(x.count(4), 1), 21);
        due(27, "run's place", x.span(x.run(1), 0), 10);
        due(27, "run's bytes", x.span(x.run(1), 1), 12);
        due(27, "token's place", x.span(x.good(2), 0), 5);
        due(27, "token's bytes", x.span(x.good(2), 1), 2);
        due(27, "END", x.span(0, 0), NONE);
        due(27, "L from nothing", x.span(x.before(x.run(0)), 0), NONE);
        due(27, "no tokens", x.span(1, 0), NONE);
        due(27, "what 2", x.span(x.count(4), 2), NONE);
        due(27, "what -1", x.span(x.count(4), -1), NONE);
        due(27, "none", x.span(-1, 0) + x.span(FAR, 1), 2 * NONE);
        int run = x.run(0);
        Typist.edit(x, 0, 10, "");
        due(27, "elsewhere now", x.span(x.run(0), 0), 0);
        due(27, "not in the tree", x.span(run, 0), NONE);
        Typist.edit(x, 0, 0, "   ;");
        due(27, "in the last good text", x.span(x.run(0), 0), 0);
    }

    private static void under() {
        RegrowDesk x = Typist.deskOf(" ab=1;\t#");
        int[] tokens = {-2, 0, 0, 1, 2, 3, -2, 4};
        for (int i = 0; i < tokens.length; i++) {
            due(28, "under " + i, x.under(i), tokens[i]);
        }
        due(28, "none", x.under(8) + x.under(-1) + x.under(FAR), 3 * NONE);
    }

    private static void runs() {
        RegrowDesk x = Typist.deskOf("a=1;{b=2;{c=3;}}d=4;");
        due(30, "runs", x.runs(), 3);
        due(30, "no runs", new RegrowDesk().runs(), 0);
        due(31, "run 0", x.node(x.run(0), 0), 2);
        due(31, "run 1", x.node(x.run(1), 0), 3);
        due(31, "run 2", x.node(x.run(2), 8), 16);
        due(31, "none", x.run(3) + x.run(-1) + x.run(FAR), 3 * NONE);
        Typist.edit(x, 0, 20, ";");
        due(30, "of the last good one", x.runs(), 3);
    }

    private static void value() {
        RegrowDesk x = Typist.deskOf("a=2;{b=a*a+c;a=9999*9999;}a=a*a;");
        due(32, "a wraps", x.value(0), 99980001 * 99980001);
        due(32, "b", x.value(5), 4);
        due(32, "never set", x.value(11), 0);
        due(32, "a sign", x.value(1), 0);
        due(32, "an INT", x.value(2), 0);
        due(32, "END", x.value(x.count(3) - 1), 0);
        due(32, "none", x.value(-1) + x.value(99) + x.value(FAR), 0);
        Typist.edit(x, 0, 0, "(");
        due(32, "of the last good one", x.value(5), 4);
    }

    private static void worth() {
        RegrowDesk x = Typist.deskOf("a=2;b=a+(3*a);a=5;");
        due(33, "as all NAMES are then", x.worth(x.above(6, 4)), 20);
        due(33, "P in brackets", x.worth(x.above(9, 10)), 15);
        due(33, "T", x.worth(x.above(9, 6)), 15);
        due(33, "a read", x.worth(x.above(6, 8)), 5);
        due(33, "though b was", x.value(4), 8);
        due(33, "S", x.worth(x.run(0)), 0);
        due(33, "a token", x.worth(x.good(2)), 0);
        due(33, "none", x.worth(-1) + x.worth(FAR), 0);
        int gone = x.above(2, 5);
        Typist.edit(x, 0, 4, "");
        due(33, "not in the tree", x.worth(gone), 0);
    }

    private static void above() {
        RegrowDesk x = two();
        due(34, "lowest S", x.above(6, 2), 27);
        due(34, "E of +", x.above(6, 4), 26);
        due(34, "E", x.above(6, 5), 23);
        due(34, "L", x.above(6, 1), 28);
        due(34, "L of the first", x.above(0, 1), 20);
        due(34, "not above", x.above(6, 9), -2);
        due(34, "L from nothing", x.above(6, 0), -2);
        due(34, "END", x.above(10, 1), -2);
        due(34, "no rule", x.above(6, 11) + x.above(6, -1) + x.above(10, 11), 3 * NONE);
        due(34, "no token", x.above(11, 1) + x.above(-1, 1), 2 * NONE);
    }

    private static void common() {
        RegrowDesk x = two();
        due(35, "of a sum", x.common(6, 8), 26);
        due(35, "one way or the other", x.common(8, 6), 26);
        due(35, "of two statements", x.common(0, 9), 28);
        due(35, "itself", x.common(6, 6), 14);
        due(35, "END itself", x.common(10, 10), 0);
        due(35, "END and another", x.common(10, 1), -2);
        due(35, "another and END", x.common(1, 10), -2);
        due(35, "none", x.common(11, 1) + x.common(1, 11) + x.common(-1, 10) + x.common(10, FAR), 4 * NONE);
    }

    private static void uses() {
        RegrowDesk x = Typist.deskOf("a=b;{a=a+1;}b=a;");
        due(36, "nothing set b ahead", x.uses(2), -2);
        due(36, "set by the first", x.uses(7), x.run(0));
        due(36, "set by the one within", x.uses(14), x.above(5, 2));
        due(36, "one that is set", x.uses(5), -2);
        due(36, "a sign", x.uses(1), NONE);
        due(36, "an INT", x.uses(9), NONE);
        due(36, "END", x.uses(16), NONE);
        due(36, "none", x.uses(17) + x.uses(-1), 2 * NONE);
    }

    private static void idle() {
        RegrowDesk x = Typist.deskOf("a=1;b=1;b=2;a=3;c=b;c=c+1;b=5;");
        // a=1 is set again by a=3, b=1 by b=2; b=2 and c=b are read first; the last ones stay.
        due(37, "many", x.idle(0), 2);
        due(37, "first", x.idle(1), x.run(0));
        due(37, "what 2", x.idle(2), NONE);
        due(37, "what -1", x.idle(-1), NONE);
        RegrowDesk y = Typist.deskOf("a=1;a=a;");
        due(37, "read by the one that sets again", y.idle(0), 0);
        due(37, "none", y.idle(1), -2);
        due(37, "none, what 2", y.idle(2), NONE);
    }

    private static void firm() {
        RegrowDesk x = Typist.deskOf("a=1+(2*b);");
        due(38, "INT", x.firm(x.above(2, 9)), 1);
        due(38, "E of it", x.firm(x.above(2, 5)), 1);
        due(38, "sum", x.firm(x.above(2, 4)), 0);
        due(38, "the first of the product", x.firm(x.above(5, 7)), 1);
        due(38, "product", x.firm(x.above(5, 6)), 0);
        due(38, "S", x.firm(x.run(0)), NONE);
        due(38, "a token", x.firm(x.good(2)), NONE);
        due(38, "L", x.firm(x.count(4)), NONE);
        due(38, "none", x.firm(-1) + x.firm(FAR), 2 * NONE);
    }

    private static void alike() {
        RegrowDesk x = Typist.deskOf("a=1+b;c=(1 + (b));d=b+1;e=01+b;f=1+b*1;");
        int sum = x.above(2, 4);
        due(39, "brackets tell nothing", x.alike(sum, x.above(9, 10)), 1);
        due(39, "the other way round", x.alike(sum, x.above(18, 4)), 0);
        due(39, "01 is not 1", x.alike(sum, x.above(24, 4)), 0);
        due(39, "longer", x.alike(sum, x.above(30, 4)), 0);
        due(39, "itself", x.alike(sum, sum), 1);
        due(39, "P and T", x.alike(x.above(4, 8), x.above(4, 7)), 1);
        due(39, "S", x.alike(sum, x.run(0)), NONE);
        due(39, "a token", x.alike(x.good(2), sum), NONE);
        due(39, "none", x.alike(sum, -1) + x.alike(FAR, sum), 2 * NONE);
    }

    private static void path() {
        RegrowDesk x = two();
        int[] way = {28, 27, 26, 23, 22, 21, 14};
        for (int k = 0; k < way.length; k++) {
            due(40, "k " + k, x.path(6, k), way[k]);
        }
        due(40, "below the token", x.path(6, 7), NONE);
        due(40, "k -1", x.path(6, -1), NONE);
        due(40, "far", x.path(6, FAR) + x.path(6, DEEP), 2 * NONE);
        due(40, "END", x.path(10, 0), NONE);
        due(40, "none", x.path(11, 0) + x.path(-1, 0), 2 * NONE);
    }

    private static void sets() {
        RegrowDesk x = Typist.deskOf("a=b;{a=a+1;}b=a+c;");
        due(41, "a", x.sets(0), 2);
        due(41, "a that is read", x.sets(7), 2);
        due(41, "b", x.sets(2), 1);
        due(41, "c is read only", x.sets(16), 0);
        due(41, "a sign, an INT, END", x.sets(1) + x.sets(9) + x.sets(18), 0);
        due(41, "none", x.sets(-1) + x.sets(19) + x.sets(FAR), 0);
    }

    private static void count() {
        RegrowDesk x = two();
        int[] counts = {10, 11, 1, 11, 28, 29, 2, 0, 2, 0, 24, 7, 3, 2, 17, 12, 1, 1, 2};
        for (int what = 0; what < counts.length; what++) {
            due(42, "count " + what, x.count(what), counts[what]);
        }
        due(42, "none", x.count(19) + x.count(-1) + x.count(FAR) + x.count(DEEP), 4 * NONE);
        Typist.edit(x, 0, 2, "");
        Typist.put(x, "zz");
        int[] wrong = {8, 9, 0, 11, 28, 29, 3, 2, 3, 0, 24, 7, 3, 2, 0, 12, 1, 1, 2};
        for (int what = 0; what < wrong.length; what++) {
            due(42, "wrong, count " + what, x.count(what), wrong[what]);
        }
        x.undo();
        due(42, "undone, nodes made by the latest", x.count(14), 0);
        due(42, "edits", x.count(6), 3);
        due(42, "done again", x.count(9), 1);
        RegrowDesk y = Typist.deskOf("{{}}a=10;a=20*b;b=a;");
        due(42, "how deep, down to an L from nothing or a token", y.count(11), 8);
        due(42, "INTS", y.count(12), 30);
        due(42, "NAMES set, unlike", y.count(13), 2);
        due(42, "NAMES read", y.count(17), 2);
    }

    public static void main(String[] args) {
        newObject();
        feed();
        back();
        edit();
        grown();
        rename();
        cut();
        twin();
        swap();
        undoRedo();
        text();
        token();
        good();
        node();
        child();
        last();
        fresh();
        inTheWay();
        expected();
        mend();
        print();
        ruled();
        rows();
        young();
        siblings();
        span();
        under();
        runs();
        value();
        worth();
        above();
        common();
        uses();
        idle();
        firm();
        alike();
        path();
        sets();
        count();
        T.end("PromiseTest");
    }
}
