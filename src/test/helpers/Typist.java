/** Puts texts on a desk's tape and tells answers that are not as due. */
final class Typist {
    private int calls;
    private int wrong;

    /** Puts bytes behind the tape: twenty at a time, what is too much goes back. */
    static void put(RegrowDesk desk, String bytes) {
        StringBuilder s = new StringBuilder(bytes);
        while (s.length() % 20 != 0) {
            s.append('!');
        }
        for (int i = 0; i < s.length(); i += 20) {
            int[] n = new int[5];
            for (int k = 0; k < 20; k++) {
                n[k / 4] = n[k / 4] << 8 | s.charAt(i + k);
            }
            desk.feed(n[0], n[1], n[2], n[3], n[4]);
        }
        desk.back(s.length() - bytes.length());
    }

    static int edit(RegrowDesk desk, int at, int n, String bytes) {
        put(desk, bytes);
        return desk.edit(at, n);
    }

    static RegrowDesk deskOf(String text) {
        RegrowDesk desk = new RegrowDesk();
        edit(desk, 0, 0, text);
        return desk;
    }

    static String textOf(RegrowDesk desk) {
        StringBuilder s = new StringBuilder();
        for (int i = 0; i < desk.count(0); i++) {
            s.append((char) desk.text(i));
        }
        return s.toString();
    }

    static String printOf(RegrowDesk desk) {
        StringBuilder s = new StringBuilder();
        for (int i = 0; i < desk.count(15); i++) {
            s.append((char) desk.print(i));
        }
        return s.toString();
    }

    void due(String call, Object got, Object want) {
        calls++;
        if (!got.equals(want)) {
            wrong++;
            System.out.println(call + " answered " + got + ", due is " + want);
        }
    }

    void end(String test) {
        System.out.println(test + ": " + calls + " answers, " + wrong + " not as due");
        if (wrong != 0) {
            System.exit(1);
        }
    }
}
