import java.lang.management.ManagementFactory;
import java.lang.reflect.Method;
import java.lang.reflect.Modifier;
import java.util.Random;

/** The limits that the document names, wild arguments, and what 512 calls take of memory. */
public final class LimitTest {
    private static final Typist T = new Typist();
    private static final int NONE = RegrowDesk.NONE;

    /** Types on both desks alike, and asks both what such an edit has come to. */
    private static final class Both {
        final RegrowDesk desk = new RegrowDesk();
        final DeskOracle oracle = new DeskOracle();
        int step;

        void put(String bytes) {
            Typist.put(desk, bytes);
            StringBuilder s = new StringBuilder(bytes);
            while (s.length() % 20 != 0) {
                s.append('!');
            }
            for (int i = 0; i < s.length(); i += 20) {
                int[] n = new int[5];
                for (int k = 0; k < 20; k++) {
                    n[k / 4] = n[k / 4] << 8 | s.charAt(i + k);
                }
                oracle.feed(n[0], n[1], n[2], n[3], n[4]);
            }
            oracle.back(s.length() - bytes.length());
        }

        int edit(int at, int n, String bytes) {
            put(bytes);
            return same("edit", desk.edit(at, n), oracle.edit(at, n));
        }

        int same(String call, int got, int want) {
            step++;
            T.due("step " + step + ", " + call, got, want);
            for (int what = 0; what < 19; what++) {
                T.due("step " + step + ", " + call + ", count " + what, desk.count(what), oracle.count(what));
            }
            for (int what = 0; what < 10; what++) {
                T.due("step " + step + ", " + call + ", last " + what, desk.last(what), oracle.last(what));
            }
            T.due("step " + step + ", " + call + ", row", desk.row(0), oracle.row(0));
            return got;
        }
    }

    private static void bytes() {
        RegrowDesk x = Typist.deskOf("a=1;" + " ".repeat(196));
        Typist.put(x, " ".repeat(101));
        T.due("301 bytes", x.edit(200, 0), NONE);
        T.due("the tape stays", x.count(7), 101);
        T.due("no edit", x.count(6), 1);
        T.due("the text stays", x.count(0), 200);
        x.back(1);
        T.due("300 bytes", x.edit(200, 0), 0);
        T.due("so many", x.count(0), 300);
        T.due("the last one", x.text(299), 32);
        T.due("none behind", x.text(300), NONE);
        T.due("twin", x.twin(0), NONE);
        Typist.put(x, "bb");
        T.due("rename to more", x.rename(0), NONE);
        T.due("the tape stays", x.count(7), 2);
        T.due("an edit to fewer", x.edit(100, 200), 1);
        T.due("the tape is in it", x.count(0), 102);
        RegrowDesk y = Typist.deskOf("#".repeat(99));
        Typist.edit(y, 99, 0, " ".repeat(200));
        Typist.edit(y, 299, 0, " ");
        T.due("300 of them, 100 tokens", y.count(0) * 1000 + y.count(1), 300100);
        T.due("END is behind all", y.token(99, 1), 300);
        T.due("the last token", y.under(98), 98);
        T.due("in none", y.under(299), -2);
    }

    private static void tokens() {
        RegrowDesk x = Typist.deskOf("{}".repeat(49));
        T.due("99 tokens", x.count(1), 99);
        T.due("49 runs", x.runs(), 49);
        T.due("deep rows", x.row(1), 6);
        T.due("twin", x.twin(0), NONE);
        Typist.put(x, ";;");
        T.due("101 tokens", x.edit(0, 0), NONE);
        x.back(1);
        T.due("100 tokens", x.edit(0, 0), 1);
        T.due("in the way", x.inTheWay(0) * 100 + x.inTheWay(1), 1);
        T.due("none mends", x.mend(0), -2);
        RegrowDesk y = Typist.deskOf("{".repeat(99));
        T.due("all in the way", y.inTheWay(1), 99);
        T.due("expected", y.expected(), 1 + 256 + 512);
        RegrowDesk z = Typist.deskOf("a=" + "(".repeat(47) + "7" + ")".repeat(47) + ";");
        T.due("deep in brackets", z.count(2), 1);
        T.due("how deep", z.count(11), 3 + 3 + 3 * 47 + 0);
        T.due("value", z.value(0), 7);
        T.due("print", Typist.printOf(z), "a=7;");
        T.due("lowest", z.path(49, z.count(11) - 1), z.good(49));
        RegrowDesk w = Typist.deskOf("a=" + "1+".repeat(47) + "1;");
        T.due("sum", w.value(0), 48);
        T.due("print of a sum", w.count(15), 3 + 48 + 47 * 3);
        RegrowDesk v = Typist.deskOf("{".repeat(49) + "}".repeat(49));
        T.due("one run", v.runs(), 1);
        T.due("how deep", v.count(11), 1 + 2 * 49);
    }

    /** Whole texts typed anew, till 3,000 nodes are there. */
    private static void nodes() {
        Both b = new Both();
        String[] sums = {"a=" + "1+".repeat(46) + "1;", "b=" + "(2)*".repeat(23) + "2;", "{}".repeat(48), "#".repeat(99)};
        int answer = 0;
        for (int i = 0; i < 100 && answer != NONE; i++) {
            answer = b.edit(0, b.desk.count(0), sums[i % sums.length]);
        }
        T.due("nodes are full", b.desk.count(5) >= 3000 && b.desk.count(5) < 3300, true);
        T.due("the tape stays", b.desk.count(7) > 0, true);
        T.due("no edit of nothing either", b.desk.edit(0, 0), NONE);
        b.desk.undo();
        b.desk.undo();
        T.due("undone or not", b.desk.edit(0, 0), NONE);
        Typist.put(b.desk, "");
        b.desk.back(b.desk.count(7));
        Typist.put(b.desk, "k");
        T.due("a good text", b.desk.count(2), 1);
        T.due("rename", b.desk.rename(0), NONE);
        T.due("cut", b.desk.cut(0), NONE);
        T.due("twin", b.desk.twin(0), NONE);
        T.due("swap", b.desk.swap(0), NONE);
        T.due("redo", b.desk.redo(), true);
    }

    /** Exactly so many nodes are too many: an edit of the empty text makes one. */
    private static void exactlyFull() {
        Both b = new Both();
        for (int i = 0; i < 100 && b.desk.count(5) < 2700; i++) {
            b.edit(0, b.desk.count(0), (i % 2 == 0 ? "a=1;" : "{b=b*c;}").repeat(12));
        }
        for (int i = 0; i < 400 && b.desk.count(5) < 3000; i++) {
            b.edit(0, b.desk.count(0), "");
        }
        T.due("so many nodes", b.desk.count(5), 3000);
        T.due("no edit", b.desk.edit(0, 0), NONE);
    }

    /** Just below 3,000 nodes one edit more can be, of the most nodes that there can be. */
    private static void lastEdit() {
        Both b = new Both();
        String most = "a=" + "1+".repeat(47) + "1;";
        String other = "b=" + "2*".repeat(47) + "2;";
        for (int i = 0; i < 100 && b.desk.count(5) < 2700; i++) {
            b.edit(0, b.desk.count(0), i % 2 == 0 ? most : other);
        }
        for (int i = 0; i < 400 && b.desk.count(5) < 2999; i++) {
            b.edit(0, b.desk.count(0), "");
        }
        T.due("one below", b.desk.count(5), 2999);
        T.due("a wrong one", b.edit(0, 0, most.substring(0, 96)), 1);
        T.due("the most nodes", b.edit(0, b.desk.count(0), most), 0);
        T.due("then no more", b.desk.edit(0, 0), NONE);
        T.due("the last node", b.desk.node(b.desk.count(5) - 1, 1), 0);
        T.due("value", b.desk.value(0), 48);
    }

    /**
     * Of the runs the last one is cut again and again, which makes many PAIRS and few nodes, then all that
     * is undone and the first is cut. It takes more than 512 calls to fill the PAIRS so, but nothing else wears out.
     */
    private static void pairs() {
        Both b = new Both();
        b.edit(0, 0, "{}".repeat(49));
        for (int round = 0; round < 90 && b.desk.count(16) < 3900; round++) {
            int cuts = 0;
            while (cuts < 19 && b.desk.count(16) < 3900) {
                int last = b.desk.runs() - 1;
                b.same("cut", b.desk.cut(last), b.oracle.cut(last));
                cuts++;
            }
            while (cuts > 0 && b.desk.count(16) < 3900) {
                b.same("undo", b.desk.undo() ? 1 : 0, b.oracle.undo() ? 1 : 0);
                cuts--;
            }
            if (b.desk.runs() < 25) {
                b.edit(0, b.desk.count(0), "{}".repeat(49));
            } else {
                b.same("cut", b.desk.cut(0), b.oracle.cut(0));
            }
        }
        T.due("pairs are full: " + b.desk.count(16), b.desk.count(16) >= 3900, true);
        T.due("nodes are not: " + b.desk.count(5), b.desk.count(5) < 3000, true);
        T.due("edit", b.desk.edit(0, 0), NONE);
        T.due("twin", b.desk.twin(0), NONE);
        int last = b.desk.count(16) - 1;
        T.due("the last pair", b.desk.pair(last, 0), b.oracle.pair(last, 0));
        T.due("none behind", b.desk.pair(last + 1, 0), NONE);
    }

    /** Hundreds of edits, each a new statement of as many reads as can be: all of them are recorded. */
    private static void records() {
        Both b = new Both();
        b.edit(0, 0, "a=" + "b+".repeat(46) + "b;");
        for (int i = 0; i < 400 && b.desk.count(5) < 2990; i++) {
            b.edit(0, 1, "" + (char) ('c' + i % 3));
        }
        T.due("edits", b.desk.count(6) > 300, true);
        b.same("undo", b.desk.undo() ? 1 : 0, b.oracle.undo() ? 1 : 0);
        b.edit(0, 0, "b=1;");
    }

    /** Any call with any arguments answers. */
    private static void wildArguments() throws Exception {
        Random random = new Random(7);
        int[] wild = {0, 1, 2, -1, -2, 5, 10, 11, 99, 100, 300, 2999, 3400, 10000, Integer.MAX_VALUE, Integer.MIN_VALUE,
            1 << 30, -1000, 0x613D313B, 0x7B7D7B7D};
        int calls = 0;
        for (int run = 0; run < 150; run++) {
            RegrowDesk x = new RegrowDesk();
            Typist.edit(x, 0, 0, run % 3 == 0 ? "" : run % 3 == 1 ? "a=1;b=a+2;{c=b;}" : "a=1;(");
            for (int i = 0; i < 600; i++) {
                callOne(x, random, wild);
                calls++;
            }
        }
        T.due("wild calls", calls, 90000);
    }

    private static void callOne(RegrowDesk x, Random random, int[] wild) throws Exception {
        Method[] all = RegrowDesk.class.getDeclaredMethods();
        Method m = all[random.nextInt(all.length)];
        if (!Modifier.isPublic(m.getModifiers())) {
            return;
        }
        Object[] arguments = new Object[m.getParameterCount()];
        for (int k = 0; k < arguments.length; k++) {
            arguments[k] = random.nextBoolean() ? wild[random.nextInt(wild.length)] : random.nextInt(40);
        }
        m.invoke(x, arguments);
    }

    /** One room for all calls of a run: what is made is made by the constructor. */
    private static void memory() {
        useAll();
        com.sun.management.ThreadMXBean threads = (com.sun.management.ThreadMXBean) ManagementFactory.getThreadMXBean();
        long thread = Thread.currentThread().getId();
        long ahead = threads.getThreadAllocatedBytes(thread);
        RegrowDesk x = new RegrowDesk();
        long made = threads.getThreadAllocatedBytes(thread);
        useDesk(x);
        long used = threads.getThreadAllocatedBytes(thread);
        T.due("the constructor's bytes: " + (made - ahead), made - ahead < 1_000_000, true);
        T.due("the calls' bytes: " + (used - made), used - made < 20_000, true);
    }

    private static void useAll() {
        useDesk(new RegrowDesk());
    }

    private static void useDesk(RegrowDesk x) {
        for (int i = 0; i < 40; i++) {
            x.feed(0x613D313B, 0x623D612B, 0x323B7B7D, 0x633D6228, 0x20202020);
            x.back(i % 3 == 0 ? 4 : 5);
            x.edit(0, Math.min(3, x.count(0)));
            x.inTheWay(0);
            x.mend(1);
            x.expected();
            x.alike(x.path(2, 3), x.path(2, 4));
            x.undo();
            x.twin(0);
            x.swap(0);
            x.cut(0);
            x.redo();
        }
    }

    public static void main(String[] args) throws Exception {
        bytes();
        tokens();
        nodes();
        exactlyFull();
        lastEdit();
        pairs();
        records();
        wildArguments();
        memory();
        T.end("LimitTest");
    }
}
