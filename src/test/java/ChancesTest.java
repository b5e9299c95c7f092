/** Promises 19 to 26: see, unsee, rows, torn, seed, drawn, keep, again. */
final class ChancesTest {
    private static final int NONE = NestFinder.NONE, BAD = NestFinder.BAD, LATE = NestFinder.LATE;

    private static void seeing() {
        Both x = new Both();
        int[][] wrong = {{-1, 'a', 0}, {5, 'a', 0}, {0, 'a' - 1, 0}, {0, 'z' + 1, 0}, {0, 'A', 0}, {0, 'a', -1}, {0, 'a', 2},
            {Integer.MIN_VALUE, 'a', 1}, {0, Integer.MAX_VALUE, 1}};
        for (int[] w : wrong) {
            Check.due("see(" + w[0] + ", " + w[1] + ", " + w[2] + ")", x.see(w[0], w[1], w[2]), BAD);
        }
        Check.due("about(9)", x.about(9), 0);
        Check.due("see(0, 'a', 0)", x.see(0, 'a', 0), 1);
        Check.due("see(0, 'a', 0), the same", x.see(0, 'a', 0), 2);
        Check.due("see(4, 'z', 1)", x.see(4, 'z', 1), 3);
        for (int i = 4; i <= 6; i++) {
            Check.due("see(1, 'b', 1)", x.see(1, 'b', 1), i);
        }
        Check.due("see(1, 'b', 1), a seventh", x.see(1, 'b', 1), NestFinder.FULL);
        Check.due("see(5, 'b', 1), a seventh", x.see(5, 'b', 1), BAD);
        Check.due("about(9)", x.about(9), 6);
        Check.due("unsee()", x.unsee(), 6);
        Check.due("unsee()", x.unsee(), 0);
        Check.due("about(9)", x.about(9), 0);
        Check.due("see(1, 'b', 1)", x.see(1, 'b', 1), 1);
    }

    private static void rowsAre(Both x, String name, int count, int first) {
        Check.due(name + ": rows(0)", x.rows(0), count);
        Check.due(name + ": rows(1)", x.rows(1), first);
    }

    /** From a by 0, 1, 2 to b, c, d, and from each of these back to a. */
    private static void rows() {
        Both x = Check.of("G4a123b0c0d0");
        rowsAre(x, "nothing seen", 81, 0);
        x.see(1, 'c', 1);
        rowsAre(x, "c behind 1", 27, 1000);
        x.see(3, 'b', 0);
        rowsAre(x, "c behind 1, no b behind 3", 18, 1010);
        x.see(3, 'c', 0);
        rowsAre(x, "and no c behind 3", 9, 1020);
        x.see(4, 'a', 1);
        rowsAre(x, "and a behind 4", 9, 1020);
        x.see(0, 'a', 1);
        rowsAre(x, "and a behind 0", 9, 1020);
        x.see(2, 'a', 0);
        rowsAre(x, "and no a behind 2", 0, NONE);
        x.unsee();
        rowsAre(x, "nothing seen any more", 81, 0);
        x.see(0, 'b', 1);
        rowsAre(x, "b behind 0", 0, NONE);
        Check.due("rows(-1)", x.rows(-1), BAD);
        Check.due("rows(2)", x.rows(2), BAD);
    }

    private static void rowsByTheGraphAsItIs() {
        Both x = Check.of("G2a1b");
        x.see(4, 'a', 1);
        rowsAre(x, "one stays at b", 0, NONE);
        x.add(1, 0);
        rowsAre(x, "to and fro", 81, 0);
        x.add(0, 0);
        rowsAre(x, "by choice 1 from a to itself", 55, 0);
        x.undo();
        x.undo();
        rowsAre(x, "undone", 0, NONE);
        Both empty = new Both();
        Check.due("no block: rows(0)", empty.rows(0), LATE);
        Check.due("no block: rows(1)", empty.rows(1), LATE);
        Check.due("no block: rows(2)", empty.rows(2), BAD);
    }

    private static void tornIs(Both x, int block, int tenths, int above, int below) {
        String was = Check.picture(x);
        String call = "torn(" + block + ", " + tenths + ", ";
        Check.due(call + "true) of " + was, x.torn(block, tenths, true), above);
        Check.due(call + "false) of " + was, x.torn(block, tenths, false), below);
        Check.same("nothing changes", Check.picture(x), was);
        Check.due("about(8)", x.about(8), 0);
    }

    private static void torn() {
        Both x = Check.of("G3a12b2c1");
        tornIs(x, 0, 0, 0, 1);
        tornIs(x, 0, 10, 1, 1);
        tornIs(x, 0, 3, 51, 100);
        tornIs(x, 0, 5, 3, 4);
        tornIs(x, 1, 3, 3, 10);
        tornIs(x, 2, 4, 2, 5);
        Both y = Check.of("G4a122b2c1d");
        tornIs(y, 0, 1, 109, 1000);
        tornIs(y, 0, 5, 5, 8);
        tornIs(y, 3, 5, 0, 1);
        tornIs(Check.of("G2a1b"), 1, 5, 1, 1);
    }

    private static void wrongTorn() {
        Both x = Check.of("G2a1b");
        int[] strangers = {-1, 2, 12, Integer.MIN_VALUE, Integer.MAX_VALUE};
        for (int b : strangers) {
            Check.due("torn(" + b + ", 11, true)", x.torn(b, 11, true), NestFinder.UNKNOWN);
            Check.due("torn(" + b + ", 1, false)", x.torn(b, 1, false), NestFinder.UNKNOWN);
        }
        Check.due("torn(0, -1, true)", x.torn(0, -1, true), BAD);
        Check.due("torn(0, 11, false)", x.torn(0, 11, false), BAD);
    }

    private static void seeds() {
        Both x = new Both();
        Check.due("seed(5)", x.seed(5), 0);
        Check.due("seed(MIN)", x.seed(Long.MIN_VALUE), 5);
        Check.due("seed(-1)", x.seed(-1), Long.MIN_VALUE);
        Check.due("drawn(0)", x.drawn(0), BAD);
        Check.due("drawn(-1)", x.drawn(-1), BAD);
        Check.due("drawn(21)", x.drawn(21), BAD);
        Check.due("seed(0) behind refusals", x.seed(0), -1);
        Check.due("no block: drawn(1)", x.drawn(1), 0);
        Check.due("seed(0)", x.seed(0), 1442695040888963407L);
        Check.due("no block: drawn(2)", x.drawn(2), 0);
        Check.due("seed(0)", x.seed(0), 1442695040888963407L * 6364136223846793005L + 1442695040888963407L);
    }

    /** A seed behind which the first draw has the bits that are asked for. */
    private static long seedFor(int one, int other, int kind) {
        long drawn = (long) (one + 8 * other + 64 * kind) << 33;
        long back = 1;
        for (int i = 0; i < 6; i++) {
            back *= 2 - 6364136223846793005L * back;
        }
        return (drawn - 1442695040888963407L) * back;
    }

    private static void drawnOnce(String text, int one, int other, int kind, int want) {
        Both x = Check.of(text);
        String was = Check.picture(x);
        x.seed(seedFor(one, other, kind));
        Check.due("drawn(1) by " + one + ", " + other + ", " + kind + " of " + was, x.drawn(1), want);
        Check.same("nothing changes", Check.picture(x), was);
        Check.due("about(8)", x.about(8), 0);
    }

    private static void drawn() {
        String x = "G3a12b0c111";
        for (int kind = 0; kind <= 2; kind++) {
            drawnOnce(x, 1, 1, kind, 2);
            drawnOnce(x, 1, 2, kind, 2);
            drawnOnce(x, 0, 1, kind, 1);
            drawnOnce(x, 2, 2, kind, 1);
            drawnOnce(x, 3, 0, kind, 1);
            drawnOnce(x, 0, 7, kind, 1);
        }
        drawnOnce(x, 1, 7, 3, 0);
        drawnOnce(x, 0, 0, 3, 1);
        drawnOnce(x, 7, 0, 3, 1);
        String y = "G1a";
        drawnOnce(y, 0, 0, 0, 1);
        drawnOnce(y, 0, 0, 3, 0);
    }

    private static void drawnOften() {
        Both x = Check.of("G3a12b2c1");
        x.mend();
        x.seed(9);
        Check.due("drawn(20)", x.drawn(20), 11);
        Check.due("drawn(1) begins with the graph anew", x.drawn(1), 2);
        Check.due("seed(0)", x.seed(0), 5992134568988695080L);
        Check.due("about(8)", x.about(8), 1);
    }

    private static void slots() {
        Both x = Check.of("G3a12b2c1");
        int[] strangers = {-1, 2, Integer.MIN_VALUE, Integer.MAX_VALUE};
        for (int slot : strangers) {
            Check.due("keep(" + slot + ")", x.keep(slot), NestFinder.UNKNOWN);
            Check.due("again(" + slot + ")", x.again(slot), NestFinder.UNKNOWN);
        }
        Check.due("again(0)", x.again(0), LATE);
        x.add(2, 2);
        Check.due("keep(0)", x.keep(0), 5);
        Check.due("about(8): keep leaves the doings", x.about(8), 1);
        Check.due("again(1)", x.again(1), LATE);
        Check.due("about(8) behind a refusal", x.about(8), 1);
        x.split(0, 1);
        Check.due("keep(1)", x.keep(1), 6);
        x.mend();
        x.see(2, 'b', 0);
        x.seed(3);
        Check.due("again(0)", x.again(0), 5);
        Check.same("picture", Check.picture(x), "a1,2 b2 c1,2");
        Check.due("about(8)", x.about(8), 0);
        Check.due("undo()", x.undo(), LATE);
        x.cut(2, 0);
        Check.due("again(1)", x.again(1), 6);
        Check.same("picture", Check.picture(x), "a3,2 b2 c1,2 b2");
        Check.due("again(0), not touched by the cut", x.again(0), 5);
        Check.same("picture", Check.picture(x), "a1,2 b2 c1,2");
        Check.due("about(9)", x.about(9), 1);
        Check.due("seed(0)", x.seed(0), 3);
        x.cut(0, 0);
        Check.due("keep(0), over the other", x.keep(0), 4);
        x.undo();
        Check.due("again(0)", x.again(0), 4);
        Check.same("picture", Check.picture(x), "a2 b2 c1,2");
    }

    private static void slotsWithoutBlocks() {
        Both x = new Both();
        Check.due("keep(0)", x.keep(0), 0);
        Check.due("again(0)", x.again(0), 0);
        Check.due("again(1)", x.again(1), LATE);
        Check.due("about(0)", x.about(0), 0);
    }

    public static void main(String[] args) {
        seeing();
        rows();
        rowsByTheGraphAsItIs();
        torn();
        wrongTorn();
        seeds();
        drawn();
        drawnOften();
        slots();
        slotsWithoutBlocks();
        Check.end();
    }
}
