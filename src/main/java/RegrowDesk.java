/**
 * The desk of an editor that keeps a tree of its text: each change reads the text anew into tokens
 * and grows the tree again out of the subtrees that the change did not touch.
 */
public final class RegrowDesk {
    public static final int NONE = -1;

    /** What is told where something that could be there is not. */
    private static final int ABSENT = -2;
    private static final int NO_SUCH_NODE = -1000;

    private static final int MOST_BYTES = 300;
    private static final int MOST_TOKENS = 100;
    private static final int MOST_TAPE = 200;
    private static final int MOST_UNDONE = 20;
    private static final int NODES_FULL = 3000;
    private static final int PAIRS_FULL = 3900;

    /** One EDIT makes some 260 nodes at most, and it may begin with 2,999. */
    private static final int NODE_ROOM = 3400;
    /** One EDIT makes 48 PAIRS at most, and it may begin with 3,899. */
    private static final int PAIR_ROOM = 4000;
    /** A TREE of 99 tokens has some 250 nodes at most. */
    private static final int TREE_ROOM = 400;
    /** Each of 99 tokens can be the first of two on the stack: '{' and the L behind it. */
    private static final int STACK_ROOM = 300;
    private static final int PRINT_ROOM = 700;
    /** Each of 512 EDITS can make statements that read 48 NAMES in all. */
    private static final int RECORD_ROOM = 25600;
    private static final int FIRST_PAIR_ROW = 10000;

    private static final int NAME = 0;
    private static final int INT = 1;
    private static final int END = 10;
    private static final int BAD = 11;
    private static final int START_KIND = 12;
    /** A KIND's symbol is behind those of the RULES. */
    private static final int KIND_SYMBOL = 5;
    private static final int SYMBOLS = 17;
    private static final int STATES = 21;
    private static final int RULES = 11;
    private static final int MOST_CHILDREN = 4;
    private static final int DONE_STATE = 1;

    private static final int STATEMENT = 1;
    private static final int RULE_SET = 2;
    private static final int RULE_ADD = 4;
    private static final int RULE_SUM_IS = 5;
    private static final int RULE_MULTIPLY = 6;
    private static final int RULE_PRODUCT_IS = 7;
    private static final int RULE_READ = 8;
    private static final int RULE_INT = 9;
    private static final int RULE_WITHIN = 10;

    /** By STATE, then L S E T P, NAME INT = ; + * ( ) { } END BAD; 0 leads nowhere. */
    private static final int[] LEADS = {
        1, 0, 0, 0, 0, 0, 0, 0, 0, 0, 0, 0, 0, 0, 0, 0, 0,
        0, 2, 0, 0, 0, 3, 0, 0, 0, 0, 0, 0, 0, 4, 0, 0, 0,
        0, 0, 0, 0, 0, 0, 0, 0, 0, 0, 0, 0, 0, 0, 0, 0, 0,
        0, 0, 0, 0, 0, 0, 0, 5, 0, 0, 0, 0, 0, 0, 0, 0, 0,
        6, 0, 0, 0, 0, 0, 0, 0, 0, 0, 0, 0, 0, 0, 0, 0, 0,
        0, 0, 7, 8, 9, 10, 11, 0, 0, 0, 0, 12, 0, 0, 0, 0, 0,
        0, 2, 0, 0, 0, 3, 0, 0, 0, 0, 0, 0, 0, 4, 13, 0, 0,
        0, 0, 0, 0, 0, 0, 0, 0, 14, 15, 0, 0, 0, 0, 0, 0, 0,
        0, 0, 0, 0, 0, 0, 0, 0, 0, 0, 16, 0, 0, 0, 0, 0, 0,
        0, 0, 0, 0, 0, 0, 0, 0, 0, 0, 0, 0, 0, 0, 0, 0, 0,
        0, 0, 0, 0, 0, 0, 0, 0, 0, 0, 0, 0, 0, 0, 0, 0, 0,
        0, 0, 0, 0, 0, 0, 0, 0, 0, 0, 0, 0, 0, 0, 0, 0, 0,
        0, 0, 17, 8, 9, 10, 11, 0, 0, 0, 0, 12, 0, 0, 0, 0, 0,
        0, 0, 0, 0, 0, 0, 0, 0, 0, 0, 0, 0, 0, 0, 0, 0, 0,
        0, 0, 0, 0, 0, 0, 0, 0, 0, 0, 0, 0, 0, 0, 0, 0, 0,
        0, 0, 0, 18, 9, 10, 11, 0, 0, 0, 0, 12, 0, 0, 0, 0, 0,
        0, 0, 0, 0, 19, 10, 11, 0, 0, 0, 0, 12, 0, 0, 0, 0, 0,
        0, 0, 0, 0, 0, 0, 0, 0, 0, 15, 0, 0, 20, 0, 0, 0, 0,
        0, 0, 0, 0, 0, 0, 0, 0, 0, 0, 16, 0, 0, 0, 0, 0, 0,
        0, 0, 0, 0, 0, 0, 0, 0, 0, 0, 0, 0, 0, 0, 0, 0, 0,
        0, 0, 0, 0, 0, 0, 0, 0, 0, 0, 0, 0, 0, 0, 0, 0, 0
    };
    private static final int[] STATE_RULE = {
        0, -1, 1, -1, 0, -1, -1, -1, 5, 7, 8, 9, -1, 3, 2, -1, -1, -1, 4, 6, 10
    };
    private static final int[] RULE_SYMBOL = {0, 0, 1, 1, 2, 2, 3, 3, 4, 4, 4};
    /** By KIND, the KINDS (bits) that can be right behind it in a good text; last, behind nothing. */
    private static final int[] FOLLOWERS = {
        0b00010111100, 0b00010111000, 0b00001000011, 0b11100000001, 0b00001000011, 0b00001000011,
        0b00001000011, 0b00010111000, 0b01100000001, 0b11100000001, 0, 0, 0b10100000001
    };
    private static final int[] RULE_LENGTH = {0, 2, 4, 3, 3, 1, 3, 1, 1, 1, 3};

    private final Row tape = new Row(MOST_TAPE);
    private int tapeSize;
    /** One slot more than can be undone: the one that is now. */
    private final Moment[] moments = new Moment[MOST_UNDONE + 1];
    private final Moment draft = new Moment();
    private int slot;
    private int undoable;
    private int redoable;
    private int edits;
    private final Row latest = new Row(10);
    private final Nodes nodes = new Nodes();
    private final TreeView view = new TreeView(nodes);
    private final Grower grower = new Grower(nodes, view);
    private final Runner runner = new Runner(nodes, view);
    private final Pairs pairs = new Pairs();
    private final Printer printer = new Printer(nodes);
    private final Adviser adviser = new Adviser();
    private final Row printed = new Row(PRINT_ROOM);
    private final Row printedOther = new Row(PRINT_ROOM);
    private int printedSize;

    public RegrowDesk() {
        for (int i = 0; i < moments.length; i++) {
            moments[i] = new Moment();
        }
        int end = nodes.makeToken(END, 0, 0, 0, 0);
        int tree = nodes.makeRuled(0, 0, 0);
        draft.tokens.readAll(draft.text, 0);
        draft.beGood(tree);
        draft.goodNode.set(0, end);
        draft.row = ABSENT;
        latest.set(6, ABSENT);
        now().copyFrom(draft);
        lookAt(now(), 0);
    }

    // ---- the tape and the changes ----

    public int feed(int a, int b, int c, int d, int e) {
        if (tapeSize + 20 > MOST_TAPE) {
            return NONE;
        }
        feedFour(a);
        feedFour(b);
        feedFour(c);
        feedFour(d);
        feedFour(e);
        return tapeSize;
    }

    public int back(int n) {
        if (n < 0 || n > tapeSize) {
            return NONE;
        }
        tapeSize -= n;
        return tapeSize;
    }

    public int edit(int at, int n) {
        Moment now = now();
        if (at < 0 || n < 0 || at > now.size || n > now.size - at) {
            return NONE;
        }
        draft.size = 0;
        draft.append(now.text, 0, at);
        draft.append(tape, 0, tapeSize);
        draft.append(now.text, at + n, now.size);
        return change(true);
    }

    public int rename(int i) {
        Moment now = now();
        if (!now.good || !now.tokens.has(i) || now.tokens.kind.get(i) != NAME || !tapeIsName()) {
            return NONE;
        }
        draft.size = 0;
        int from = 0;
        for (int k = 0; k < now.tokens.many; k++) {
            if (now.tokens.sameBytes(i, k)) {
                draft.append(now.text, from, now.tokens.start.get(k));
                draft.append(tape, 0, tapeSize);
                from = now.tokens.start.get(k) + now.tokens.length.get(k);
            }
        }
        draft.append(now.text, from, now.size);
        return change(true);
    }

    public int cut(int i) {
        Moment now = now();
        if (!now.good || !view.hasRun(i)) {
            return NONE;
        }
        draft.size = 0;
        draft.append(now.text, 0, runStart(i));
        draft.append(now.text, runEnd(i), now.size);
        return change(false);
    }

    public int twin(int i) {
        Moment now = now();
        if (!now.good || !view.hasRun(i)) {
            return NONE;
        }
        draft.size = 0;
        draft.append(now.text, 0, runEnd(i));
        draft.append(now.text, runStart(i), now.size);
        return change(false);
    }

    public int swap(int i) {
        Moment now = now();
        if (!now.good || !view.hasRun(i) || !view.hasRun(i + 1)) {
            return NONE;
        }
        draft.size = 0;
        draft.append(now.text, 0, runStart(i));
        draft.append(now.text, runStart(i + 1), runEnd(i + 1));
        draft.append(now.text, runEnd(i), runStart(i + 1));
        draft.append(now.text, runStart(i), runEnd(i));
        draft.append(now.text, runEnd(i + 1), now.size);
        return change(false);
    }

    public boolean undo() {
        if (undoable == 0) {
            return false;
        }
        undoable--;
        redoable++;
        slot = slot == 0 ? MOST_UNDONE : slot - 1;
        lookAt(now(), 0);
        return true;
    }

    public boolean redo() {
        if (redoable == 0) {
            return false;
        }
        redoable--;
        undoable++;
        slot = nextSlot();
        lookAt(now(), 0);
        return true;
    }

    // ---- the text and its tokens ----

    public int text(int i) {
        Moment now = now();
        return i >= 0 && i < now.size ? now.text.get(i) : NONE;
    }

    public int token(int i, int what) {
        Tokens tokens = now().tokens;
        if (!tokens.has(i)) {
            return NONE;
        }
        switch (what) {
            case 0: return tokens.kind.get(i);
            case 1: return tokens.start.get(i);
            case 2: return tokens.length.get(i);
            default: return NONE;
        }
    }

    public int good(int i) {
        Moment now = now();
        return now.hasGood(i) ? now.goodNode.get(i) : NONE;
    }

    public int under(int i) {
        Moment now = now();
        if (i < 0 || i >= now.size) {
            return NONE;
        }
        return now.tokens.covering(i);
    }

    public int fresh() {
        // Growing is the same from nothing or not, but that then each node is put or made by itself.
        return view.size;
    }

    public int inTheWay(int what) {
        if (what != 0 && what != 1) {
            return NONE;
        }
        Moment now = now();
        if (now.good) {
            return ABSENT;
        }
        adviser.findWay(now.tokens);
        return what == 0 ? adviser.foundAt : adviser.foundWhat;
    }

    public int expected() {
        Moment now = now();
        return now.good ? ABSENT : adviser.kindsInPlace(now.tokens);
    }

    public int mend(int what) {
        if (what != 0 && what != 1) {
            return NONE;
        }
        Moment now = now();
        if (now.good) {
            return ABSENT;
        }
        adviser.findMend(now.tokens);
        return what == 0 ? adviser.foundAt : adviser.foundWhat;
    }

    // ---- the nodes and the tree ----

    public int node(int node, int what) {
        if (!nodes.has(node)) {
            return NO_SUCH_NODE;
        }
        switch (what) {
            case 0: return nodes.rule.get(node);
            case 1: return nodes.symbol.get(node);
            case 2: return nodes.childrenOf(node);
            case 3: return nodes.state.get(node);
            case 4: return nodes.tokens.get(node);
            case 5: return nodes.madeBy.get(node);
            case 6: return isEnd(node) || view.holds(node) ? 1 : 0;
            case 7: return view.parentOf(node);
            case 8: return isEnd(node) ? now().goodMany - 1 : view.firstOf(node);
            default: return NO_SUCH_NODE;
        }
    }

    public int child(int node, int i) {
        if (!nodes.has(node) || i < 0 || i >= nodes.childrenOf(node)) {
            return NONE;
        }
        return nodes.childOf(node, i);
    }

    public int beside(int node) {
        return view.sibling(node, 1);
    }

    public int before(int node) {
        return view.sibling(node, -1);
    }

    public int span(int node, int what) {
        if ((what != 0 && what != 1) || !view.holds(node) || view.firstOf(node) < 0) {
            return NONE;
        }
        return what == 0 ? startOf(node) : endOf(node) - startOf(node);
    }

    public int ruled(int rule) {
        return rule >= 0 && rule < RULES ? view.ruleMany.get(rule) : NONE;
    }

    public int above(int i, int rule) {
        Moment now = now();
        if (!now.hasGood(i) || rule < 0 || rule >= RULES) {
            return NONE;
        }
        return view.lowestOfRule(now.goodNode.get(i), rule);
    }

    public int common(int i, int k) {
        Moment now = now();
        if (!now.hasGood(i) || !now.hasGood(k)) {
            return NONE;
        }
        // END is not in the TREE, so nothing is found above it.
        int node = now.goodNode.get(i);
        return i == k ? node : view.lowestOver(node, k);
    }

    public int path(int i, int k) {
        Moment now = now();
        if (!now.hasGood(i) || i == now.goodMany - 1) {
            return NONE;
        }
        return view.wayDown(now.goodNode.get(i), k);
    }

    public int print(int i) {
        return i >= 0 && i < printedSize ? printed.get(i) : NONE;
    }

    public int alike(int node, int other) {
        if (!view.holdsExpression(node) || !view.holdsExpression(other)) {
            return NONE;
        }
        return printsAlike(node, other) ? 1 : 0;
    }

    public int firm(int node) {
        if (!view.holdsExpression(node)) {
            return NONE;
        }
        return view.readsName(node) ? 0 : 1;
    }

    // ---- runs, rows and names ----

    public int runs() {
        return view.runMany;
    }

    public int run(int i) {
        return view.hasRun(i) ? view.runNode.get(i) : NONE;
    }

    public int young(int i) {
        if (!view.hasRun(i)) {
            return NONE;
        }
        return view.madeWithin(view.runNode.get(i), edits);
    }

    public int row(int what) {
        switch (what) {
            case 0: return now().row;
            case 1: return Pairs.depthOf(view.runMany);
            default: return NONE;
        }
    }

    public int pair(int pair, int what) {
        if (pair < 0 || pair >= pairs.many) {
            return NONE;
        }
        switch (what) {
            case 0: return pairs.first.get(pair);
            case 1: return pairs.other.get(pair);
            default: return NONE;
        }
    }

    public int value(int i) {
        return isGoodName(i) ? runner.valueOf(i) : 0;
    }

    public int worth(int node) {
        return view.holdsExpression(node) ? runner.worths.get(view.place.get(node)) : 0;
    }

    public int uses(int i) {
        return isGoodName(i) ? runner.setAhead.get(i) : NONE;
    }

    public int sets(int i) {
        return isGoodName(i) ? runner.timesSet(i) : 0;
    }

    public int idle(int what) {
        switch (what) {
            case 0: return runner.idleMany;
            case 1: return runner.idleMany == 0 ? ABSENT : view.order.get(runner.idleFirst);
            default: return NONE;
        }
    }

    // ---- what is told of an edit, and in all ----

    public int last(int what) {
        return what >= 0 && what <= 9 ? latest.get(what) : NONE;
    }

    public int count(int what) {
        Moment now = now();
        switch (what) {
            case 0: return now.size;
            case 1: return now.tokens.many;
            case 2: return now.good ? 1 : 0;
            case 3: return now.goodMany;
            case 4: return now.tree;
            case 5: return nodes.many;
            case 6: return edits;
            case 7: return tapeSize;
            case 8: return undoable;
            case 9: return redoable;
            default: return countInTree(what);
        }
    }

    private int countInTree(int what) {
        switch (what) {
            case 10: return view.size;
            case 11: return view.deepest;
            case 12: return runner.intSum;
            case 13: return runner.namesSet;
            case 14: return view.madeWithin(view.tree, edits);
            case 15: return printedSize;
            case 16: return pairs.many;
            case 17: return view.ruleMany.get(RULE_READ);
            case 18: return view.firstMade;
            default: return NONE;
        }
    }

    // ---- how a change goes on ----

    /** The draft's bytes become the TEXT; till then nothing but the draft may be touched. */
    private int change(boolean byTape) {
        if (draft.size > MOST_BYTES || nodes.many >= NODES_FULL || pairs.many >= PAIRS_FULL) {
            return NONE;
        }
        if (!draft.tokens.readAll(draft.text, draft.size)) {
            return NONE;
        }
        tapeSize = byTape ? 0 : tapeSize;
        edits++;
        int nodesAhead = nodes.many;
        int ruledAhead = view.ruledSize();
        boolean good = grower.regrow(now(), draft, edits);
        if (good) {
            draft.beGood(grower.onTop());
        } else {
            nodes.many = nodesAhead;
            draft.keepGood(now());
        }
        tellGrowth(good ? nodes.many - nodesAhead : 0);
        if (good) {
            lookAt(draft, edits);
            layRow();
            tellGood(ruledAhead);
        }
        turnToNext();
        return good ? 0 : 1;
    }

    private void tellGrowth(int made) {
        latest.set(0, grower.ahead);
        latest.set(1, grower.behind);
        latest.set(2, grower.taken);
        latest.set(3, made);
        latest.set(4, 0);
        latest.set(5, grower.steps);
        latest.set(6, grower.wrong);
        latest.set(7, grower.tokensMade);
        latest.set(8, 0);
        latest.set(9, 0);
    }

    private void layRow() {
        int pairsAhead = pairs.many;
        draft.row = pairs.layAll(view.runNode, view.runMany);
        latest.set(9, pairs.many - pairsAhead);
    }

    private void tellGood(int ruledAhead) {
        // Of the nodes of a RULE that are there now, those not made in this EDIT are from the TREE ahead.
        latest.set(4, ruledAhead - (view.ruledSize() - grower.ruledMade));
        latest.set(8, runner.doneAgain);
    }

    private void turnToNext() {
        slot = nextSlot();
        now().copyFrom(draft);
        undoable = Math.min(MOST_UNDONE, undoable + 1);
        redoable = 0;
    }

    private int nextSlot() {
        return slot >= MOST_UNDONE ? 0 : slot + 1;
    }

    private void lookAt(Moment moment, int recordedEdit) {
        view.lookAt(moment);
        runner.runAll(moment, recordedEdit);
        printedSize = printer.write(moment.tree, printed);
    }

    private Moment now() {
        Moment moment = slot >= 0 && slot < moments.length ? moments[slot] : draft;
        return moment == null ? draft : moment;
    }

    private void feedFour(int bytes) {
        for (int shift = 24; shift >= 0; shift -= 8) {
            tape.set(tapeSize, (bytes >>> shift) & 255);
            tapeSize++;
        }
    }

    private boolean tapeIsName() {
        for (int i = 0; i < tapeSize; i++) {
            if (!Tokens.isLetter(tape.get(i))) {
                return false;
            }
        }
        return tapeSize >= 1 && tapeSize <= 8;
    }

    private boolean printsAlike(int node, int other) {
        // The first row is borrowed from the PRINT of the TREE, which is written there again behind.
        int size = printer.write(node, printed);
        int otherSize = printer.write(other, printedOther);
        boolean same = size == otherSize;
        for (int i = 0; same && i < size; i++) {
            same = printed.get(i) == printedOther.get(i);
        }
        printer.write(now().tree, printed);
        return same;
    }

    private boolean isEnd(int node) {
        return nodes.symbol.get(node) == KIND_SYMBOL + END;
    }

    private boolean isGoodName(int i) {
        Moment now = now();
        return now.hasGood(i) && nodes.symbol.get(now.goodNode.get(i)) == KIND_SYMBOL + NAME;
    }

    private int startOf(int node) {
        return now().goodStart.get(view.firstOf(node));
    }

    private int endOf(int node) {
        Moment now = now();
        int lastToken = view.firstOf(node) + nodes.tokens.get(node) - 1;
        return now.goodStart.get(lastToken) + nodes.length.get(now.goodNode.get(lastToken));
    }

    private int runStart(int i) {
        return startOf(view.runNode.get(i));
    }

    private int runEnd(int i) {
        return endOf(view.runNode.get(i));
    }

    // ---- the rules and states ----

    private static int leadsTo(int state, int symbol) {
        if (state < 0 || state >= STATES || symbol < 0 || symbol >= SYMBOLS) {
            return 0;
        }
        int i = state * SYMBOLS + symbol;
        return i < LEADS.length ? LEADS[i] : 0;
    }

    private static int ruleAt(int state) {
        return state >= 0 && state < STATE_RULE.length ? STATE_RULE[state] : -1;
    }

    private static int symbolOf(int rule) {
        return rule >= 0 && rule < RULE_SYMBOL.length ? RULE_SYMBOL[rule] : 0;
    }

    private static int lengthOf(int rule) {
        return rule >= 0 && rule < RULE_LENGTH.length ? RULE_LENGTH[rule] : 0;
    }

    private static boolean fits(int kind, int behind) {
        return kind >= 0 && kind < FOLLOWERS.length && (FOLLOWERS[kind] >> behind & 1) == 1;
    }

    /** Numbers in a row, each looked for only where it can be. */
    private static final class Row {
        private final int[] cells;

        Row(int room) {
            cells = new int[room < 0 ? 0 : room];
        }

        int get(int i) {
            return i >= 0 && i < cells.length ? cells[i] : 0;
        }

        void set(int i, int number) {
            if (i >= 0 && i < cells.length) {
                cells[i] = number;
            }
        }

        void add(int i, int number) {
            set(i, get(i) + number);
        }

        void fill(int number) {
            for (int i = 0; i < cells.length; i++) {
                cells[i] = number;
            }
        }

        void copyFrom(Row row, int many) {
            int both = Math.min(many, Math.min(cells.length, row.cells.length));
            if (both > 0) {
                System.arraycopy(row.cells, 0, cells, 0, both);
            }
        }
    }

    /** A text's tokens; the bytes of one are packed in two numbers, so that they compare at once. */
    private static final class Tokens {
        final Row kind = new Row(MOST_TOKENS);
        final Row start = new Row(MOST_TOKENS);
        final Row length = new Row(MOST_TOKENS);
        final Row head = new Row(MOST_TOKENS);
        final Row tail = new Row(MOST_TOKENS);
        int many;

        boolean has(int i) {
            return i >= 0 && i < many;
        }

        /** Whether the tokens, END too, are not too many. */
        boolean readAll(Row text, int size) {
            many = 0;
            int i = 0;
            while (i < size) {
                int length = isBlank(text.get(i)) ? 1 : readOne(text, size, i);
                i += Math.max(1, length);
                if (many >= MOST_TOKENS) {
                    return false;
                }
            }
            append(text, END, size, 0);
            return true;
        }

        private int readOne(Row text, int size, int at) {
            int first = text.get(at);
            int kindThere = signOf(first);
            int bytes = 1;
            if (isLetter(first) || isDigit(first)) {
                int most = isLetter(first) ? 8 : 4;
                int run = runFrom(text, size, at, most + 1);
                kindThere = isLetter(first) ? NAME : INT;
                kindThere = run > most ? BAD : kindThere;
                bytes = run > most ? 1 : run;
            }
            append(text, kindThere, at, bytes);
            return bytes;
        }

        private void append(Row text, int kindThere, int at, int bytes) {
            kind.set(many, kindThere);
            start.set(many, at);
            length.set(many, bytes);
            head.set(many, pack(text, at, Math.min(4, bytes)));
            tail.set(many, pack(text, at + 4, Math.min(4, bytes - 4)));
            many++;
        }

        private static int pack(Row text, int at, int bytes) {
            int packed = 0;
            for (int i = 0; i < bytes; i++) {
                packed |= text.get(at + i) << (24 - 8 * i);
            }
            return packed;
        }

        /** How many letters, or digits, stand there one behind the other, counted up to a bound. */
        private static int runFrom(Row text, int size, int at, int bound) {
            boolean letters = isLetter(text.get(at));
            int run = 1;
            while (run < bound && at + run < size
                    && (letters ? isLetter(text.get(at + run)) : isDigit(text.get(at + run)))) {
                run++;
            }
            return run;
        }

        boolean sameBytes(int i, int k) {
            return kind.get(i) == kind.get(k) && length.get(i) == length.get(k)
                    && head.get(i) == head.get(k) && tail.get(i) == tail.get(k);
        }

        int covering(int at) {
            for (int i = 0; i < many; i++) {
                if (at >= start.get(i) && at < start.get(i) + length.get(i)) {
                    return i;
                }
            }
            return ABSENT;
        }

        void copyFrom(Tokens tokens) {
            many = tokens.many;
            kind.copyFrom(tokens.kind, many);
            start.copyFrom(tokens.start, many);
            length.copyFrom(tokens.length, many);
            head.copyFrom(tokens.head, many);
            tail.copyFrom(tokens.tail, many);
        }

        static boolean isBlank(int b) {
            return b == 9 || b == 10 || b == 13 || b == 32;
        }

        static boolean isLetter(int b) {
            return b >= 'a' && b <= 'z';
        }

        static boolean isDigit(int b) {
            return b >= '0' && b <= '9';
        }

        private static int signOf(int b) {
            switch (b) {
                case '=': return 2;
                case ';': return 3;
                case '+': return 4;
                case '*': return 5;
                case '(': return 6;
                case ')': return 7;
                case '{': return 8;
                case '}': return 9;
                default: return BAD;
            }
        }
    }

    /** All that undoing brings back: the TEXT, and of the last good one what can not be read from it. */
    private static final class Moment {
        final Row text = new Row(MOST_BYTES);
        int size;
        final Tokens tokens = new Tokens();
        boolean good;
        final Row goodNode = new Row(MOST_TOKENS);
        final Row goodStart = new Row(MOST_TOKENS);
        int goodMany;
        int tree;
        int row;

        boolean hasGood(int i) {
            return i >= 0 && i < goodMany;
        }

        /** Bytes that do not fit are counted only: a text of so many is refused. */
        void append(Row bytes, int from, int to) {
            for (int i = from; i < to; i++) {
                text.set(size, bytes.get(i));
                size++;
            }
        }

        void beGood(int newTree) {
            good = true;
            tree = newTree;
            goodMany = tokens.many;
            goodStart.copyFrom(tokens.start, goodMany);
        }

        void keepGood(Moment ahead) {
            good = false;
            tree = ahead.tree;
            row = ahead.row;
            goodMany = ahead.goodMany;
            goodNode.copyFrom(ahead.goodNode, goodMany);
            goodStart.copyFrom(ahead.goodStart, goodMany);
        }

        void copyFrom(Moment moment) {
            size = moment.size;
            text.copyFrom(moment.text, size);
            tokens.copyFrom(moment.tokens);
            keepGood(moment);
            good = moment.good;
        }
    }

    /** All nodes that were ever made. */
    private static final class Nodes {
        final Row rule = new Row(NODE_ROOM);
        final Row symbol = new Row(NODE_ROOM);
        final Row state = new Row(NODE_ROOM);
        final Row tokens = new Row(NODE_ROOM);
        final Row madeBy = new Row(NODE_ROOM);
        final Row length = new Row(NODE_ROOM);
        final Row head = new Row(NODE_ROOM);
        final Row tail = new Row(NODE_ROOM);
        private final Row children = new Row(NODE_ROOM * MOST_CHILDREN);
        int many;

        boolean has(int node) {
            return node >= 0 && node < many;
        }

        int makeToken(int kind, int bytes, int headBytes, int tailBytes, int edit) {
            int node = make(ABSENT, KIND_SYMBOL + kind, ABSENT, edit);
            tokens.set(node, 1);
            length.set(node, bytes);
            head.set(node, headBytes);
            tail.set(node, tailBytes);
            return node;
        }

        int makeRuled(int newRule, int begun, int edit) {
            int node = make(newRule, symbolOf(newRule), begun, edit);
            tokens.set(node, 0);
            return node;
        }

        private int make(int newRule, int newSymbol, int begun, int edit) {
            int node = many;
            rule.set(node, newRule);
            symbol.set(node, newSymbol);
            state.set(node, begun);
            madeBy.set(node, edit);
            many++;
            return node;
        }

        void giveChild(int node, int i, int childNode) {
            children.set(node * MOST_CHILDREN + i, childNode);
            tokens.add(node, tokens.get(childNode));
        }

        int childrenOf(int node) {
            return lengthOf(rule.get(node));
        }

        int childOf(int node, int i) {
            return children.get(node * MOST_CHILDREN + i);
        }

        boolean isToken(int node) {
            return rule.get(node) < 0;
        }

        int byteOf(int node, int i) {
            int bytes = i < 4 ? head.get(node) : tail.get(node);
            return (bytes >>> (24 - 8 * (i & 3))) & 255;
        }

        boolean isLike(int node, Tokens read, int i) {
            return symbol.get(node) == KIND_SYMBOL + read.kind.get(i)
                    && length.get(node) == read.length.get(i)
                    && head.get(node) == read.head.get(i) && tail.get(node) == read.tail.get(i);
        }

        boolean sameBytes(int node, int other) {
            return symbol.get(node) == symbol.get(other) && length.get(node) == length.get(other)
                    && head.get(node) == head.get(other) && tail.get(node) == tail.get(other);
        }
    }

    /** A TREE laid flat: each node ahead of those below it, from the left; a node's place is its number there. */
    private static final class TreeView {
        private final Nodes nodes;
        final Row order = new Row(TREE_ROOM);
        final Row place = new Row(NODE_ROOM);
        private final Row parentPlace = new Row(TREE_ROOM);
        final Row firstToken = new Row(TREE_ROOM);
        private final Row depth = new Row(TREE_ROOM);
        final Row reach = new Row(TREE_ROOM);
        private final Row waiting = new Row(TREE_ROOM);
        private final Row waitingParent = new Row(TREE_ROOM);
        final Row ruleMany = new Row(RULES);
        final Row runNode = new Row(MOST_TOKENS);
        int runMany;
        int size;
        int tree;
        int deepest;
        int firstMade;

        TreeView(Nodes allNodes) {
            nodes = allNodes;
        }

        void lookAt(Moment moment) {
            tree = moment.tree;
            layFlat();
            sumUp();
            findRuns();
        }

        private void layFlat() {
            size = 0;
            waiting.set(0, tree);
            waitingParent.set(0, -1);
            int waitingMany = 1;
            int tokensAhead = 0;
            for (int turn = 0; turn < TREE_ROOM && waitingMany > 0; turn++) {
                waitingMany--;
                int node = waiting.get(waitingMany);
                layNode(node, waitingParent.get(waitingMany), tokensAhead);
                tokensAhead += nodes.isToken(node) ? 1 : 0;
                for (int i = nodes.childrenOf(node) - 1; i >= 0; i--) {
                    waiting.set(waitingMany, nodes.childOf(node, i));
                    waitingParent.set(waitingMany, size - 1);
                    waitingMany++;
                }
            }
        }

        private void layNode(int node, int parent, int tokensAhead) {
            order.set(size, node);
            place.set(node, size);
            parentPlace.set(size, parent);
            firstToken.set(size, nodes.tokens.get(node) > 0 ? tokensAhead : ABSENT);
            depth.set(size, parent < 0 ? 1 : depth.get(parent) + 1);
            reach.set(size, 1);
            size++;
        }

        private void sumUp() {
            ruleMany.fill(0);
            deepest = 0;
            firstMade = tree;
            for (int at = size - 1; at >= 0; at--) {
                int node = order.get(at);
                reach.add(parentPlace.get(at), reach.get(at));
                ruleMany.add(nodes.rule.get(node), 1);
                deepest = Math.max(deepest, depth.get(at));
                firstMade = Math.min(firstMade, node);
            }
        }

        private void findRuns() {
            runMany = 0;
            int at = 0;
            while (at < size) {
                int node = order.get(at);
                boolean isRun = nodes.symbol.get(node) == STATEMENT;
                if (isRun) {
                    runNode.set(runMany, node);
                    runMany++;
                }
                at += isRun ? Math.max(1, reach.get(at)) : 1;
            }
        }

        boolean hasRun(int i) {
            return i >= 0 && i < runMany;
        }

        /** A place that an earlier TREE left behind is found out by the node that is there now. */
        boolean holds(int node) {
            if (!nodes.has(node)) {
                return false;
            }
            int at = place.get(node);
            return at < size && order.get(at) == node;
        }

        boolean holdsExpression(int node) {
            return holds(node) && nodes.rule.get(node) >= RULE_ADD;
        }

        int parentOf(int node) {
            if (!holds(node) || node == tree) {
                return ABSENT;
            }
            return order.get(parentPlace.get(place.get(node)));
        }

        int firstOf(int node) {
            return holds(node) ? firstToken.get(place.get(node)) : ABSENT;
        }

        /** The place behind a node and all that is below it. */
        int placeBehind(int node) {
            int at = place.get(node);
            return at + reach.get(at);
        }

        int ruledSize() {
            int sum = 0;
            for (int rule = 0; rule < RULES; rule++) {
                sum += ruleMany.get(rule);
            }
            return sum;
        }

        int sibling(int node, int step) {
            int parent = parentOf(node);
            if (parent < 0) {
                return ABSENT;
            }
            int many = nodes.childrenOf(parent);
            for (int i = 0; i < many; i++) {
                int other = i + step;
                if (nodes.childOf(parent, i) == node && other >= 0 && other < many) {
                    return nodes.childOf(parent, other);
                }
            }
            return ABSENT;
        }

        int lowestOfRule(int node, int rule) {
            int above = parentOf(node);
            for (int i = 0; i < TREE_ROOM && above >= 0; i++) {
                if (nodes.rule.get(above) == rule) {
                    return above;
                }
                above = parentOf(above);
            }
            return ABSENT;
        }

        /** The lowest node above another one that has a token, too. */
        int lowestOver(int node, int token) {
            int above = parentOf(node);
            for (int i = 0; i < TREE_ROOM && above >= 0; i++) {
                int first = firstOf(above);
                if (token >= first && token < first + nodes.tokens.get(above)) {
                    return above;
                }
                above = parentOf(above);
            }
            return ABSENT;
        }

        int wayDown(int node, int k) {
            int up = depth.get(place.get(node)) - 1 - k;
            if (k < 0 || up < 0) {
                return NONE;
            }
            int above = node;
            for (int i = 0; i < up; i++) {
                above = parentOf(above);
            }
            return above;
        }

        boolean readsName(int node) {
            int behind = placeBehind(node);
            for (int at = place.get(node); at < behind; at++) {
                if (nodes.rule.get(order.get(at)) == RULE_READ) {
                    return true;
                }
            }
            return false;
        }

        /** Ahead of the first EDIT there is none that could have made any. */
        int madeWithin(int node, int edit) {
            int made = 0;
            int behind = placeBehind(node);
            for (int at = place.get(node); at < behind; at++) {
                if (edit > 0 && nodes.madeBy.get(order.get(at)) == edit) {
                    made++;
                }
            }
            return made;
        }
    }

    /** Grows a new text's tree out of what is sound of the last good one, which the view shows. */
    private static final class Grower {
        private final Nodes nodes;
        private final TreeView view;
        private final Row states = new Row(STACK_ROOM);
        private final Row stack = new Row(STACK_ROOM);
        private int top;
        private int oldMany;
        private int newMany;
        int ahead;
        int behind;
        int tokensMade;
        int ruledMade;
        int taken;
        int steps;
        int wrong;

        Grower(Nodes allNodes, TreeView goodView) {
            nodes = allNodes;
            view = goodView;
        }

        int onTop() {
            return stack.get(top);
        }

        boolean regrow(Moment old, Moment next, int edit) {
            oldMany = old.goodMany;
            newMany = next.tokens.many;
            keepAlike(old, next.tokens);
            nameTokens(old, next, edit);
            return growAll(next, edit);
        }

        private void keepAlike(Moment old, Tokens read) {
            int both = Math.min(oldMany, newMany) - 1;
            ahead = 0;
            while (ahead < both && nodes.isLike(old.goodNode.get(ahead), read, ahead)) {
                ahead++;
            }
            behind = 1;
            while (behind <= both - ahead
                    && nodes.isLike(old.goodNode.get(oldMany - 1 - behind), read, newMany - 1 - behind)) {
                behind++;
            }
        }

        private void nameTokens(Moment old, Moment next, int edit) {
            Tokens read = next.tokens;
            tokensMade = 0;
            for (int i = 0; i < newMany; i++) {
                int was = oldPlace(i);
                if (was >= 0) {
                    next.goodNode.set(i, old.goodNode.get(was));
                } else {
                    next.goodNode.set(i, nodes.makeToken(read.kind.get(i), read.length.get(i),
                            read.head.get(i), read.tail.get(i), edit));
                    tokensMade++;
                }
            }
        }

        /** Which token of the last good TEXT this one was; below 0: none. */
        private int oldPlace(int i) {
            if (i < ahead) {
                return i;
            }
            return i >= newMany - behind ? i - newMany + oldMany : ABSENT;
        }

        private boolean growAll(Moment next, int edit) {
            ruledMade = 0;
            taken = 0;
            steps = 0;
            wrong = ABSENT;
            top = 0;
            states.set(0, 0);
            int i = 0;
            for (int turn = 0; turn < 10000; turn++) {
                int node = next.goodNode.get(i);
                int passed = putSound(node, i);
                if (passed == 0) {
                    passed = putToken(node);
                }
                i += passed;
                if (passed == 0 && !makeByRule(edit)) {
                    boolean done = i == newMany - 1 && states.get(top) == DONE_STATE;
                    wrong = done ? ABSENT : i;
                    return done;
                }
                steps++;
            }
            wrong = i;
            return false;
        }

        /** How many tokens the largest subtree that can be taken here has. */
        private int putSound(int token, int i) {
            int was = oldPlace(i);
            int best = ABSENT;
            int node = was < 0 ? ABSENT : view.parentOf(token);
            for (int up = 0; up < TREE_ROOM && node >= 0 && view.firstOf(node) == was; up++) {
                if (nodes.state.get(node) == states.get(top) && isSound(was, nodes.tokens.get(node))) {
                    best = node;
                }
                node = view.parentOf(node);
            }
            if (best < 0) {
                return 0;
            }
            put(best, leadsTo(states.get(top), nodes.symbol.get(best)));
            taken++;
            return nodes.tokens.get(best);
        }

        /** Its tokens and the one behind them stand together in what is kept ahead, or behind, or all is kept. */
        private boolean isSound(int first, int tokens) {
            boolean allKept = ahead + behind == oldMany && oldMany == newMany;
            return first + tokens < ahead || first >= oldMany - behind || allKept;
        }

        private int putToken(int token) {
            int state = states.get(top);
            int to = leadsTo(state, nodes.symbol.get(token));
            if (to == 0) {
                return 0;
            }
            if (nodes.state.get(token) < 0) {
                nodes.state.set(token, state);
            }
            put(token, to);
            return 1;
        }

        private boolean makeByRule(int edit) {
            int rule = ruleAt(states.get(top));
            int many = lengthOf(rule);
            if (rule < 0 || many > top) {
                return false;
            }
            top -= many;
            int begun = states.get(top);
            int node = nodes.makeRuled(rule, begun, edit);
            for (int i = 0; i < many; i++) {
                nodes.giveChild(node, i, stack.get(top + 1 + i));
            }
            put(node, leadsTo(begun, symbolOf(rule)));
            ruledMade++;
            return true;
        }

        private void put(int node, int state) {
            top++;
            stack.set(top, node);
            states.set(top, state);
        }
    }

    /** Runs all statements of a tree and keeps what was seen on the way. */
    private static final class Runner {
        private final Nodes nodes;
        private final TreeView view;
        /** Of each token that is a NAME the first token alike; the rows by NAME are by that one. */
        private final Row nameOf = new Row(MOST_TOKENS);
        private final Row values = new Row(MOST_TOKENS);
        private final Row setTimes = new Row(MOST_TOKENS);
        private final Row lastSet = new Row(MOST_TOKENS);
        private final Row unread = new Row(MOST_TOKENS);
        final Row setAhead = new Row(MOST_TOKENS);
        final Row worths = new Row(TREE_ROOM);
        /** By statement, where what it read when it was RUN last begins in the records, and 1. */
        private final Row recordOf = new Row(NODE_ROOM);
        private final Row records = new Row(RECORD_ROOM);
        private int recorded;
        int idleMany;
        int idleFirst;
        int doneAgain;
        int intSum;
        int namesSet;

        Runner(Nodes allNodes, TreeView goodView) {
            nodes = allNodes;
            view = goodView;
        }

        int valueOf(int token) {
            return values.get(nameOf.get(token));
        }

        int timesSet(int token) {
            return setTimes.get(nameOf.get(token));
        }

        /** Of edit 0 nothing is recorded: a TREE that undoing brings back was RUN behind its own EDIT. */
        void runAll(Moment moment, int edit) {
            clear();
            findNames(moment);
            for (int at = 0; at < view.size; at++) {
                if (nodes.rule.get(view.order.get(at)) == RULE_SET) {
                    runStatement(at, edit);
                }
            }
            evaluate(0, view.size);
            sumUp();
        }

        private void clear() {
            values.fill(0);
            setTimes.fill(0);
            lastSet.fill(ABSENT);
            unread.fill(ABSENT);
            setAhead.fill(ABSENT);
            idleMany = 0;
            idleFirst = TREE_ROOM;
            doneAgain = 0;
        }

        private void findNames(Moment moment) {
            for (int i = 0; i < moment.goodMany; i++) {
                int first = 0;
                int node = moment.goodNode.get(i);
                while (first < i && !nodes.sameBytes(node, moment.goodNode.get(first))) {
                    first++;
                }
                nameOf.set(i, first);
            }
        }

        private void runStatement(int at, int edit) {
            int node = view.order.get(at);
            // Behind the statement's own place come its NAME, its '=' and its E.
            int from = at + 3;
            int to = from + view.reach.get(from);
            boolean changed = edit > 0 && recordReads(node, from, to);
            if (edit > 0 && (changed || nodes.madeBy.get(node) == edit)) {
                doneAgain++;
            }
            noteReads(from, to);
            evaluate(from, to);
            setName(view.firstToken.get(at), at, worths.get(from));
        }

        /** Whether a NAME is something else now than when this statement was RUN last. */
        private boolean recordReads(int node, int from, int to) {
            boolean isNew = recordOf.get(node) == 0;
            if (isNew) {
                recordOf.set(node, recorded + 1);
            }
            int slot = recordOf.get(node) - 1;
            boolean changed = false;
            for (int at = from; at < to; at++) {
                if (nodes.rule.get(view.order.get(at)) == RULE_READ) {
                    int now = valueOf(view.firstToken.get(at));
                    changed |= !isNew && records.get(slot) != now;
                    records.set(slot, now);
                    slot++;
                }
            }
            recorded = isNew ? slot : recorded;
            return changed;
        }

        private void noteReads(int from, int to) {
            for (int at = from; at < to; at++) {
                if (nodes.rule.get(view.order.get(at)) == RULE_READ) {
                    int token = view.firstToken.get(at);
                    int name = nameOf.get(token);
                    setAhead.set(token, lastSet.get(name));
                    unread.set(name, ABSENT);
                }
            }
        }

        private void setName(int token, int at, int number) {
            int name = nameOf.get(token);
            if (unread.get(name) >= 0) {
                idleMany++;
                idleFirst = Math.min(idleFirst, unread.get(name));
            }
            unread.set(name, at);
            lastSet.set(name, view.order.get(at));
            setTimes.add(name, 1);
            values.set(name, number);
        }

        /** From behind: what is below a node is worth something ahead of it. */
        private void evaluate(int from, int to) {
            for (int at = to - 1; at >= from; at--) {
                worths.set(at, worthAt(at));
            }
        }

        private int worthAt(int at) {
            // The first child is at the next place, the third behind all of the first and one sign.
            int one = at + 1;
            int other = one + view.reach.get(one) + 1;
            switch (nodes.rule.get(view.order.get(at))) {
                case RULE_ADD: return worths.get(one) + worths.get(other);
                case RULE_MULTIPLY: return worths.get(one) * worths.get(other);
                case RULE_SUM_IS:
                case RULE_PRODUCT_IS: return worths.get(one);
                case RULE_READ: return values.get(nameOf.get(view.firstToken.get(at)));
                case RULE_INT: return numberOf(nodes.head.get(view.order.get(one)));
                case RULE_WITHIN: return worths.get(one + 1);
                default: return 0;
            }
        }

        /** An INT has four digits at most, so all of them are in the head. */
        private static int numberOf(int digits) {
            int number = 0;
            for (int shift = 24; shift >= 0; shift -= 8) {
                int digit = (digits >>> shift) & 255;
                number = digit == 0 ? number : number * 10 + digit - '0';
            }
            return number;
        }

        private void sumUp() {
            intSum = 0;
            for (int at = 0; at < view.size; at++) {
                boolean isInt = nodes.rule.get(view.order.get(at)) == RULE_INT;
                intSum += isInt ? worths.get(at) : 0;
            }
            namesSet = 0;
            for (int name = 0; name < MOST_TOKENS; name++) {
                namesSet += setTimes.get(name) > 0 ? 1 : 0;
            }
        }
    }

    /** Rows laid of halves, none of the same two halves twice. */
    private static final class Pairs {
        final Row first = new Row(PAIR_ROOM);
        final Row other = new Row(PAIR_ROOM);
        /** Pairs of the same first ROW are chained, so that one that is there is found soon; 0 ends a chain. */
        private final Row chain = new Row(PAIR_ROOM);
        private final Row chainOf = new Row(NODE_ROOM + PAIR_ROOM);
        int many;

        int layAll(Row runs, int runMany) {
            return runMany == 0 ? ABSENT : layPart(this, runs, 0, runMany, 0);
        }

        private static int layPart(Pairs pairs, Row runs, int from, int part, int level) {
            if (part <= 1 || level > 8) {
                return runs.get(from);
            }
            int half = (part + 1) / 2;
            int one = layPart(pairs, runs, from, half, level + 1);
            int two = layPart(pairs, runs, from + half, part - half, level + 1);
            return FIRST_PAIR_ROW + pairs.findOrMake(one, two);
        }

        private int findOrMake(int one, int two) {
            int place = one < FIRST_PAIR_ROW ? one : one - FIRST_PAIR_ROW + NODE_ROOM;
            int at = chainOf.get(place);
            for (int i = 0; i < PAIR_ROOM && at > 0; i++) {
                if (other.get(at - 1) == two) {
                    return at - 1;
                }
                at = chain.get(at - 1);
            }
            first.set(many, one);
            other.set(many, two);
            chain.set(many, chainOf.get(place));
            chainOf.set(place, many + 1);
            many++;
            return many - 1;
        }

        static int depthOf(int runMany) {
            // The first half is rounded up, so what PAIRS of a depth can have doubles with each one.
            int depth = 0;
            while (depth < 30 && 1 << depth < runMany) {
                depth++;
            }
            return depth;
        }
    }

    /** Writes what a node is, with brackets round each sum and product. */
    private static final class Printer {
        private final Nodes nodes;
        /** Nodes still to be written, and bytes: a byte is below 0. */
        private final Row waiting = new Row(1000);
        private int waitingMany;
        private int size;

        Printer(Nodes allNodes) {
            nodes = allNodes;
        }

        int write(int node, Row out) {
            size = 0;
            waitingMany = 0;
            putOff(node);
            for (int turn = 0; turn < 10000 && waitingMany > 0; turn++) {
                waitingMany--;
                int next = waiting.get(waitingMany);
                if (next < 0) {
                    writeByte(-1 - next, out);
                } else if (nodes.isToken(next)) {
                    writeToken(next, out);
                } else {
                    openUp(next);
                }
            }
            return size;
        }

        /** What is to be written last waits first. */
        private void openUp(int node) {
            int rule = nodes.rule.get(node);
            boolean bracketed = rule == RULE_ADD || rule == RULE_MULTIPLY;
            if (rule == RULE_WITHIN) {
                putOff(nodes.childOf(node, 1));
                return;
            }
            if (bracketed) {
                putOff(-1 - ')');
            }
            for (int i = nodes.childrenOf(node) - 1; i >= 0; i--) {
                putOff(nodes.childOf(node, i));
            }
            if (bracketed) {
                putOff(-1 - '(');
            }
        }

        private void putOff(int item) {
            waiting.set(waitingMany, item);
            waitingMany++;
        }

        private void writeToken(int token, Row out) {
            for (int i = 0; i < nodes.length.get(token); i++) {
                writeByte(nodes.byteOf(token, i), out);
            }
        }

        private void writeByte(int b, Row out) {
            out.set(size, b);
            size++;
        }
    }

    /** Growing from nothing with no tree made: only whether it goes on. */
    private static final class Trial {
        private final Row states = new Row(STACK_ROOM);
        private int top;

        void begin() {
            top = 0;
            states.set(0, 0);
        }

        void copyFrom(Trial trial) {
            top = trial.top;
            states.copyFrom(trial.states, top + 1);
        }

        /** Whether a KIND is put sooner or later, or is the END of a good text. */
        boolean accepts(int kind) {
            for (int turn = 0; turn < 1000; turn++) {
                int state = states.get(top);
                int to = leadsTo(state, KIND_SYMBOL + kind);
                int rule = ruleAt(state);
                if (to > 0) {
                    top++;
                    states.set(top, to);
                    return true;
                }
                if (rule < 0 || lengthOf(rule) > top) {
                    return kind == END && state == DONE_STATE;
                }
                top -= lengthOf(rule);
                top++;
                states.set(top, leadsTo(states.get(top - 1), symbolOf(rule)));
            }
            return false;
        }

        boolean acceptsFrom(Tokens tokens, int from) {
            for (int i = from; i < tokens.many; i++) {
                if (!accepts(tokens.kind.get(i))) {
                    return false;
                }
            }
            return true;
        }
    }

    /** What could be done about a text that is not good. */
    private static final class Adviser {
        /** Has put the tokens ahead of a place. */
        private final Trial ahead = new Trial();
        private final Trial trial = new Trial();
        private final Row balance = new Row(MOST_TOKENS + 1);
        int foundAt;
        int foundWhat;

        void findWay(Tokens tokens) {
            weigh(tokens);
            int misfit = lastMisfit(tokens);
            for (int many = 1; many < tokens.many; many++) {
                ahead.begin();
                boolean goesOn = true;
                for (int at = 0; goesOn && at + many < tokens.many; at++) {
                    if (at + many > misfit && couldGo(tokens, at, many)) {
                        trial.copyFrom(ahead);
                        if (trial.acceptsFrom(tokens, at + many)) {
                            found(at, many);
                            return;
                        }
                    }
                    goesOn = ahead.accepts(tokens.kind.get(at));
                }
            }
            found(ABSENT, ABSENT);
        }

        /** Growing on from each place for each length would take long: most can be told not to at a glance. */
        private boolean couldGo(Tokens tokens, int at, int many) {
            boolean balanced = balance.get(at + many) - balance.get(at) == balance.get(tokens.many);
            int kindAhead = at == 0 ? START_KIND : tokens.kind.get(at - 1);
            return balanced && fits(kindAhead, tokens.kind.get(at + many));
        }

        /** Round brackets open ahead of each token, and curly ones, which weigh more than all round ones. */
        private void weigh(Tokens tokens) {
            int sum = 0;
            for (int i = 0; i < tokens.many; i++) {
                balance.set(i, sum);
                switch (tokens.kind.get(i)) {
                    case 6: sum++; break;
                    case 7: sum--; break;
                    case 8: sum += 1000; break;
                    case 9: sum -= 1000; break;
                    default: break;
                }
            }
            balance.set(tokens.many, sum);
        }

        /** The last token that the one behind it never follows in a good text; what goes must reach that far. */
        private static int lastMisfit(Tokens tokens) {
            for (int i = tokens.many - 2; i >= 0; i--) {
                if (!fits(tokens.kind.get(i), tokens.kind.get(i + 1))) {
                    return i;
                }
            }
            return -1;
        }

        void findMend(Tokens tokens) {
            ahead.begin();
            boolean goesOn = true;
            for (int at = 0; goesOn && at < tokens.many; at++) {
                for (int kind = 0; kind < END; kind++) {
                    trial.copyFrom(ahead);
                    if (trial.accepts(kind) && trial.acceptsFrom(tokens, at)) {
                        found(at, kind);
                        return;
                    }
                }
                goesOn = ahead.accepts(tokens.kind.get(at));
            }
            found(ABSENT, ABSENT);
        }

        int kindsInPlace(Tokens tokens) {
            goToWrong(tokens);
            int kinds = 0;
            for (int kind = 0; kind <= END; kind++) {
                trial.copyFrom(ahead);
                kinds |= trial.accepts(kind) ? 1 << kind : 0;
            }
            return kinds;
        }

        /** A token that is refused has changed the stack by then, so it is tried on a copy first. */
        private void goToWrong(Tokens tokens) {
            ahead.begin();
            trial.begin();
            for (int i = 0; i < tokens.many && trial.accepts(tokens.kind.get(i)); i++) {
                ahead.copyFrom(trial);
            }
        }

        private void found(int at, int what) {
            foundAt = at;
            foundWhat = what;
        }
    }
}
