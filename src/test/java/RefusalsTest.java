import java.util.function.ToLongFunction;

/**
 * "REFUSALS: UNKNOWN -1 (there is no such BLOCK, ARC, SLOT), BAD -2, LATE -3, FULL -4. Of several what is
 * told first. What is refused changes nothing." Each refusal of each call, from each state in which it can be.
 */
final class RefusalsTest {
    private static final int UNKNOWN = -1, BAD = -2, LATE = -3, FULL = -4;
    private static final int LEAST = Integer.MIN_VALUE, GREATEST = Integer.MAX_VALUE;

    private static void inEachState(String call, ToLongFunction<Both> asked, int want) {
        withoutBlocks(call, asked, want);
        fresh(call, asked, want);
        used(call, asked, want);
        full(call, asked, want);
    }

    private static void withoutBlocks(String call, ToLongFunction<Both> asked, int want) {
        States.changesNothing(States.WITHOUT_BLOCKS, call, asked, want);
    }

    private static void fresh(String call, ToLongFunction<Both> asked, int want) {
        States.changesNothing(States.FRESH, call, asked, want);
    }

    private static void used(String call, ToLongFunction<Both> asked, int want) {
        States.changesNothing(States.USED, call, asked, want);
    }

    private static void full(String call, ToLongFunction<Both> asked, int want) {
        States.changesNothing(States.FULL, call, asked, want);
    }

    /** "BAD; FULL: there are 64." */
    private static void write() {
        for (int letter : new int[] {-1, 256, 256 + 'G', LEAST, GREATEST}) {
            inEachState("write(" + letter + ")", x -> x.write(letter), BAD);
        }
        for (int letter : new int[] {0, 'G', 255}) {
            full("write(" + letter + ")", x -> x.write(letter), FULL);
        }
    }

    /** "LATE: a FAULT." */
    private static void graph() {
        withoutBlocks("graph() of a text not at its end", Both::graph, LATE);
        full("graph() of a text with a fault", Both::graph, LATE);
        States.changesNothing(States.USED.then("wiped", Both::wipe), "graph() of no text", Both::graph, LATE);
        States.changesNothing(States.USED.then("with a letter too much", x -> x.write('x')), "graph()", Both::graph, LATE);
    }

    /** "BAD." */
    private static void about() {
        for (int what : new int[] {-1, 11, LEAST, GREATEST}) {
            inEachState("about(" + what + ")", x -> x.about(what), BAD);
        }
    }

    /** The number of the first block that there is not, in each state. */
    private static void withStrangers(String name, StrangerCall asked) {
        for (int b : new int[] {-1, 12, LEAST, GREATEST}) {
            inEachState(name + " of block " + b, x -> asked.of(x, b), UNKNOWN);
        }
        withoutBlocks(name + " of block 0", x -> asked.of(x, 0), UNKNOWN);
        fresh(name + " of block 4", x -> asked.of(x, 4), UNKNOWN);
        used(name + " of block 5", x -> asked.of(x, 5), UNKNOWN);
    }

    private interface StrangerCall {
        long of(Both x, int block);
    }

    /** "UNKNOWN; BAD." */
    private static void blockAndSets() {
        for (int what : new int[] {0, 5, -1, 6}) {
            withStrangers("block(.., " + what + ")", (x, b) -> x.block(b, what));
        }
        for (int what : new int[] {0, 3, -1, 4}) {
            withStrangers("sets(.., " + what + ")", (x, b) -> x.sets(b, what));
        }
        for (int what : new int[] {-1, 6, LEAST, GREATEST}) {
            fresh("block(3, " + what + "), which has no order", x -> x.block(3, what), BAD);
            used("block(4, " + what + ")", x -> x.block(4, what), BAD);
            full("block(11, " + what + ")", x -> x.block(11, what), BAD);
        }
        for (int what : new int[] {-1, 4, LEAST, GREATEST}) {
            fresh("sets(3, " + what + "), which has no order", x -> x.sets(3, what), BAD);
            used("sets(4, " + what + ")", x -> x.sets(4, what), BAD);
            full("sets(11, " + what + ")", x -> x.sets(11, what), BAD);
        }
    }

    private interface ArcCall {
        long of(Both x, int block, int i);
    }

    /** "UNKNOWN" of arc, cut and share. */
    private static void arcs(String name, ArcCall asked) {
        withStrangers(name + "(.., 0)", (x, b) -> asked.of(x, b, 0));
        withStrangers(name + "(.., 3)", (x, b) -> asked.of(x, b, 3));
        for (int i : new int[] {-1, 3, LEAST, GREATEST}) {
            fresh(name + "(0, " + i + ")", x -> asked.of(x, 0, i), UNKNOWN);
            used(name + "(0, " + i + ")", x -> asked.of(x, 0, i), UNKNOWN);
            full(name + "(11, " + i + ")", x -> asked.of(x, 11, i), UNKNOWN);
        }
        fresh(name + "(0, 1), which has one arc", x -> asked.of(x, 0, 1), UNKNOWN);
        fresh(name + "(1, 2), which has two arcs", x -> asked.of(x, 1, 2), UNKNOWN);
        fresh(name + "(2, 0), which has no arc", x -> asked.of(x, 2, 0), UNKNOWN);
    }

    /** "UNKNOWN: both; FULL: it has 3." */
    private static void add() {
        withStrangers("add(.., 0)", (x, b) -> x.add(b, 0));
        withStrangers("add(0, ..), by which block 0 may be full", (x, b) -> x.add(0, b));
        withStrangers("add(.., ..)", (x, b) -> x.add(b, b));
        used("add(0, 4), a fourth arc", x -> x.add(0, 4), FULL);
        used("add(0, 1), an arc that there is", x -> x.add(0, 1), FULL);
        full("add(11, 0), a fourth arc", x -> x.add(11, 0), FULL);
    }

    /** "UNKNOWN: both; LATE: there is no ARC; FULL: there are 12." */
    private static void split() {
        withStrangers("split(.., 0)", (x, b) -> x.split(b, 0));
        withStrangers("split(0, ..)", (x, b) -> x.split(0, b));
        withStrangers("split(.., ..)", (x, b) -> x.split(b, b));
        fresh("split(1, 1)", x -> x.split(1, 1), LATE);
        fresh("split(2, 1), the arc goes the other way", x -> x.split(2, 1), LATE);
        used("split(1, 2), the arc goes to the copy", x -> x.split(1, 2), LATE);
        full("split(0, 0)", x -> x.split(0, 0), LATE);
        full("split(0, 11)", x -> x.split(0, 11), LATE);
        full("split(0, 1)", x -> x.split(0, 1), FULL);
        full("split(11, 11)", x -> x.split(11, 11), FULL);
    }

    /** "LATE: no BLOCK is MANY-ENTERED." "LATE: there is none." */
    private static void mendAndUndo() {
        withoutBlocks("mend()", Both::mend, LATE);
        fresh("mend()", Both::mend, LATE);
        States.State undone = States.USED.then("all undone", RefusalsTest::undoAll);
        States.changesNothing(undone.then("mended", Both::mend), "mend()", Both::mend, LATE);
        withoutBlocks("undo()", Both::undo, LATE);
        fresh("undo()", Both::undo, LATE);
        States.changesNothing(undone, "undo()", Both::undo, LATE);
        States.changesNothing(States.FULL.then("all undone", RefusalsTest::undoAll), "undo()", Both::undo, LATE);
    }

    private static int undoAll(Both x) {
        int left = x.about(8);
        for (int i = 0; i < 14 && left > 0; i++) {
            left = x.undo();
        }
        return left;
    }

    /** "LATE: there is no BLOCK; BAD: n, row (0 or more, n figures 0 .. 2), what." */
    private static void run() {
        int[][] wrong = {{-1, 0, 0}, {9, 0, 0}, {LEAST, 0, 1}, {GREATEST, 0, 1}, {4, -1, 0}, {4, LEAST, 0}, {4, 3, 0}, {4, 3000, 1},
            {4, 10000, 0}, {0, 1, 0}, {8, 100000000, 0}, {8, GREATEST, 0}, {4, 0, -1}, {4, 0, 2}, {4, 0, LEAST}, {4, 0, GREATEST}};
        for (int[] r : wrong) {
            String call = "run(" + r[0] + ", " + r[1] + ", " + r[2] + ")";
            withoutBlocks(call, x -> x.run(r[0], r[1], r[2]), LATE);
            used(call, x -> x.run(r[0], r[1], r[2]), BAD);
            full(call, x -> x.run(r[0], r[1], r[2]), BAD);
        }
        withoutBlocks("run(0, 0, 0)", x -> x.run(0, 0, 0), LATE);
    }

    /** "BAD." "BAD: n, row (0 or more, 3 n figures at most)." */
    private static void wouldAndJudge() {
        for (int what : new int[] {-1, 3, LEAST, GREATEST}) {
            inEachState("would(" + what + ")", x -> x.would(what), BAD);
        }
        long[][] wrong = {{0, 0}, {5, 0}, {-1, 0}, {LEAST, 0}, {GREATEST, 0}, {1, -1}, {1, 1000}, {2, 1000000}, {3, 1000000000L},
            {4, 1000000000000L}, {4, -1}, {4, Long.MIN_VALUE}, {4, Long.MAX_VALUE}};
        for (long[] j : wrong) {
            inEachState("judge(" + j[0] + ", " + j[1] + ")", x -> x.judge((int) j[0], j[1]), BAD);
        }
    }

    /** "BAD: k, letter (a .. z), was (0, 1); FULL: 6." */
    private static void see() {
        int[][] wrong = {{-1, 'a', 0}, {5, 'a', 0}, {LEAST, 'a', 0}, {GREATEST, 'a', 0}, {0, 'a' - 1, 0}, {4, 'z' + 1, 1}, {0, 0, 0},
            {0, 256 + 'a', 0}, {0, LEAST, 0}, {0, GREATEST, 0}, {0, 'a', -1}, {4, 'z', 2}, {0, 'a', LEAST}, {0, 'a', GREATEST}};
        for (int[] s : wrong) {
            inEachState("see(" + s[0] + ", " + s[1] + ", " + s[2] + ")", x -> x.see(s[0], s[1], s[2]), BAD);
        }
        full("see(0, 'a', 0)", x -> x.see(0, 'a', 0), FULL);
        full("see(4, 'z', 1)", x -> x.see(4, 'z', 1), FULL);
    }

    /** "BAD; LATE: there is no BLOCK." */
    private static void rows() {
        for (int what : new int[] {-1, 2, LEAST, GREATEST}) {
            inEachState("rows(" + what + ")", x -> x.rows(what), BAD);
        }
        withoutBlocks("rows(0)", x -> x.rows(0), LATE);
        withoutBlocks("rows(1)", x -> x.rows(1), LATE);
    }

    /** "UNKNOWN; BAD: x." */
    private static void torn() {
        for (int tenths : new int[] {0, 10, -1, 11}) {
            withStrangers("torn(.., " + tenths + ", true)", (x, b) -> x.torn(b, tenths, true));
            withStrangers("torn(.., " + tenths + ", false)", (x, b) -> x.torn(b, tenths, false));
        }
        for (int tenths : new int[] {-1, 11, LEAST, GREATEST}) {
            fresh("torn(2, " + tenths + ", true), which has no arc", x -> x.torn(2, tenths, true), BAD);
            used("torn(4, " + tenths + ", false)", x -> x.torn(4, tenths, false), BAD);
            full("torn(11, " + tenths + ", true)", x -> x.torn(11, tenths, true), BAD);
        }
    }

    /** "BAD: m." */
    private static void drawn() {
        for (int m : new int[] {0, 21, -1, LEAST, GREATEST}) {
            inEachState("drawn(" + m + ")", x -> x.drawn(m), BAD);
        }
    }

    /** "UNKNOWN." "UNKNOWN; LATE: none were kept." */
    private static void keepAndAgain() {
        for (int slot : new int[] {-1, 2, LEAST, GREATEST}) {
            inEachState("keep(" + slot + ")", x -> x.keep(slot), UNKNOWN);
            inEachState("again(" + slot + ")", x -> x.again(slot), UNKNOWN);
        }
        withoutBlocks("again(0)", x -> x.again(0), LATE);
        withoutBlocks("again(1)", x -> x.again(1), LATE);
        fresh("again(0)", x -> x.again(0), LATE);
        fresh("again(1)", x -> x.again(1), LATE);
        full("again(0), where slot 1 is filled", x -> x.again(0), LATE);
        States.changesNothing(States.USED.then("told anew", Both::graph), "again(1)", x -> x.again(1), LATE);
    }

    public static void main(String[] args) {
        write();
        graph();
        about();
        blockAndSets();
        arcs("arc", Both::arc);
        arcs("cut", Both::cut);
        arcs("share", (x, b, i) -> x.share(b, i, true));
        arcs("share", (x, b, i) -> x.share(b, i, false));
        add();
        split();
        mendAndUndo();
        run();
        wouldAndJudge();
        see();
        rows();
        torn();
        drawn();
        keepAndAgain();
        Check.end();
    }
}
