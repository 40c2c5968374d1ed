import java.util.function.IntUnaryOperator;

/** All that a desk answers, put down, so that it can be seen whether anything happened. */
final class Picture {
    private final StringBuilder seen = new StringBuilder();

    /** All answers but those of calls that change something. */
    static String of(RegrowDesk x) {
        Picture p = new Picture();
        p.see("count", x::count, 19);
        p.see("last", x::last, 10);
        p.see("ruled", x::ruled, 11);
        p.see("text", x::text, x.count(0));
        p.see("under", x::under, x.count(0));
        p.see("print", x::print, x.count(15));
        p.see("run", x::run, x.runs());
        p.see("young", x::young, x.runs());
        for (int what = 0; what < 2; what++) {
            int w = what;
            p.see("token's place " + w, i -> x.token(i, 1 + w), x.count(1));
            p.see("span " + w, n -> x.span(n, w), x.count(5));
            p.see("pair " + w, k -> x.pair(k, w), x.count(16));
            p.see("told " + w, i -> i == 0 ? x.inTheWay(w) : i == 1 ? x.mend(w) : i == 2 ? x.row(w) : x.idle(w), 4);
        }
        p.see("kind", i -> x.token(i, 0), x.count(1));
        p.see("fresh, expected", i -> i == 0 ? x.fresh() : x.expected(), 2);
        p.seeNodes(x);
        p.seeGoodTokens(x);
        return p.seen.toString();
    }

    private void seeNodes(RegrowDesk x) {
        for (int what = 0; what < 9; what++) {
            int w = what;
            see("node " + w, n -> x.node(n, w), x.count(5));
        }
        for (int i = 0; i < 4; i++) {
            int k = i;
            see("child " + k, n -> x.child(n, k), x.count(5));
        }
        see("beside", x::beside, x.count(5));
        see("before", x::before, x.count(5));
        see("worth", x::worth, x.count(5));
        see("firm", x::firm, x.count(5));
    }

    private void seeGoodTokens(RegrowDesk x) {
        see("good", x::good, x.count(3));
        see("value", x::value, x.count(3));
        see("uses", x::uses, x.count(3));
        see("sets", x::sets, x.count(3));
        see("path", i -> x.path(i, 2), x.count(3));
        see("common", i -> x.common(i, 0), x.count(3));
        see("above", i -> x.above(i, 1), x.count(3));
    }

    private void see(String name, IntUnaryOperator call, int many) {
        seen.append(name);
        for (int i = 0; i < many; i++) {
            seen.append(' ').append(call.applyAsInt(i));
        }
        seen.append('\n');
    }
}
