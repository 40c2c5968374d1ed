/** Each TEXT, TREE and RUN is told anew: nothing is left over of a longer or another one that stood there ahead. */
public final class AnewTest {
    private static final Typist T = new Typist();
    private static final int NONE = RegrowDesk.NONE;
    private static final int ABSENT = -2;

    private static void due(String call, Object got, Object want) {
        T.due(call, got, want);
    }

    /** A text where another one stood that was undone. */
    private static RegrowDesk where(String other, String text) {
        RegrowDesk x = Typist.deskOf(other);
        x.undo();
        Typist.edit(x, 0, 0, text);
        return x;
    }

    private static void tokens() {
        RegrowDesk x = where("a=1;{a=2;}", "a=1;");
        Typist.put(x, "b");
        due("rename", x.rename(0), 0);
        due("its text", Typist.textOf(x), "b=1;");
        RegrowDesk y = where("a=1;  b=2;", "a=1;    ");
        due("under a blank where a token was", y.under(7), ABSENT);
        due("text behind it", y.text(8), NONE);
        due("token behind END", y.token(5, 0), NONE);
        due("good behind END", y.good(5), NONE);
        due("value behind END", y.value(4), 0);
        due("uses behind END", y.uses(4), NONE);
    }

    private static void advice() {
        RegrowDesk x = where("a=1+2;", "a=1");
        due("mend's token", x.mend(0), 3);
        due("mend's KIND", x.mend(1), 3);
        due("in the way", x.inTheWay(0), 0);
        due("how many", x.inTheWay(1), 3);
        due("expected", x.expected(), 1 << 3 | 1 << 4 | 1 << 5);
        RegrowDesk y = where("}}}}}}", "a=1;}");
        due("one in the way", y.inTheWay(0) * 100 + y.inTheWay(1), 401);
        due("none is put besides but '{'", y.mend(0) * 100 + y.mend(1), 8);
        Typist.edit(y, 4, 1, ")");
        due("another one in the way", y.inTheWay(0) * 100 + y.inTheWay(1), 401);
        due("nothing mends it", y.mend(0), ABSENT);
        due("expected then", y.expected(), 1 | 1 << 8 | 1 << 10);
    }

    private static void trees() {
        RegrowDesk x = Typist.deskOf("a=1;".repeat(6));
        Typist.edit(x, 0, 24, "{a=1;}");
        due("NAMES set", x.count(13), 1);
        due("set so often", x.sets(1), 1);
        due("idle", x.idle(0), 0);
        due("runs", x.runs(), 1);
        due("no other run", x.run(1), NONE);
        due("DONE AGAIN", x.last(8), 1);
        RegrowDesk y = Typist.deskOf("a=1;".repeat(4));
        y.edit(4, 12);
        due("INTS added", y.count(12), 1);
        due("RULES of INTS", y.ruled(9), 1);
        due("print", Typist.printOf(y), "a=1;");
        due("print behind it", y.print(4), NONE);
        due("deepest", y.count(11), 6);
    }

    private static void runs() {
        RegrowDesk x = Typist.deskOf("a=b;b=1;");
        due("all made, the first EDIT of all", x.last(8), 2);
        for (int i = 0; i < 3; i++) {
            Typist.edit(x, 0, 0, " ");
            due("not set yet, each time", x.value(0), 0);
            due("so nothing is done again", x.last(8), 0);
            due("nor set by any ahead", x.uses(2), ABSENT);
            due("set so often", x.sets(4), 1);
        }
        RegrowDesk y = Typist.deskOf("a=1;a=2;");
        for (int i = 0; i < 3; i++) {
            due("idle, each time", y.idle(0), 1);
            due("the first such", y.idle(1), y.run(0));
            Typist.edit(y, y.count(0), 0, "\n");
        }
        y.cut(0);
        due("idle no more", y.idle(0), 0);
        due("no such one", y.idle(1), ABSENT);
        y.undo();
        due("idle again", y.idle(0), 1);
        y.redo();
        due("idle no more then", y.idle(0), 0);
    }

    /** A NAME is what it is by its bytes, be its first token now where another NAME's was. */
    private static void names() {
        RegrowDesk x = Typist.deskOf("a=1;b=2;c=a+b;");
        x.swap(0);
        due("values", x.value(0) * 100 + x.value(4) * 10 + x.value(8), 213);
        x.cut(0);
        due("one is set no more", x.value(8), 0);
        due("the sum", x.value(4), 1);
        due("its uses", x.uses(6), x.run(0));
        due("its other uses", x.uses(8), ABSENT);
        x.undo();
        due("values again", x.value(0) * 100 + x.value(4) * 10 + x.value(8), 213);
    }

    public static void main(String[] args) {
        tokens();
        advice();
        trees();
        runs();
        names();
        T.end("AnewTest");
    }
}
