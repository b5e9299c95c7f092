import java.util.function.ToLongFunction;

/** Promises 10 to 14, and the terms of doings: each sentence that names a bound, on both of its sides. */
final class DoingsBoundsTest {
    private static final int UNKNOWN = -1, LATE = -3, FULL = -4;
    private static final Aspect[] NOT_THE_GRAPH = {Aspect.TEXT, Aspect.SLOTS, Aspect.SEEN, Aspect.SEED};
    private static final String TWELVE = "a1 b2 c3 d4 e5 f6 g7 h8 a9 a10 a11 a0";
    private static final String ELEVEN = "a1 b2 c3 d4 e5 f6 g7 h8 a9 a10 a0";

    private static void pictureIs(String name, Both x, String want) {
        Check.same(name, Check.picture(x), want);
    }

    /** "ADDED: how many ARCS it has": the first, the second, the third; "FULL: it has 3." */
    private static void addUntilFull() {
        Both x = Check.of("G2ab");
        Check.due("add(0, 1)", x.add(0, 1), 1);
        Check.due("add(0, 0)", x.add(0, 0), 2);
        Check.due("add(0, 1)", x.add(0, 1), 3);
        pictureIs("behind its others", x, "a1,0,1 b");
        Check.due("add(0, 0)", x.add(0, 0), FULL);
        Check.due("add(1, 0), the other has room", x.add(1, 0), 1);
        Check.due("cut(0, 0)", x.cut(0, 0), 1);
        Check.due("add(0, 0), there is room again", x.add(0, 0), 3);
        Check.due("add(0, 0)", x.add(0, 0), FULL);
        pictureIs("behind its others", x, "a0,1,0 b0");
    }

    /** "UNKNOWN: both": the last BLOCK that there is and the first that there is not, on both sides. */
    private static void addToTheLast() {
        Both x = Check.of("G1a");
        Check.due("add(0, 1)", x.add(0, 1), UNKNOWN);
        Check.due("add(1, 0)", x.add(1, 0), UNKNOWN);
        Check.due("add(-1, 0)", x.add(-1, 0), UNKNOWN);
        Check.due("add(0, -1)", x.add(0, -1), UNKNOWN);
        Check.due("add(0, 0)", x.add(0, 0), 1);
        Both y = Check.pictured(TWELVE);
        Check.due("add(11, 11)", y.add(11, 11), 2);
        Check.due("add(0, 11)", y.add(0, 11), 2);
        Check.due("add(11, 12)", y.add(11, 12), UNKNOWN);
        Check.due("add(12, 11)", y.add(12, 11), UNKNOWN);
        pictureIs("twelve", y, "a1,11 b2 c3 d4 e5 f6 g7 h8 a9 a10 a11 a0,11");
    }

    /** "UNKNOWN; FULL": of several what is told first. */
    private static void addOfSeveral() {
        Both x = Check.of("G1a000");
        Check.due("add(0, 0)", x.add(0, 0), FULL);
        Check.due("add(0, 1)", x.add(0, 1), UNKNOWN);
        Check.due("add(0, -1)", x.add(0, -1), UNKNOWN);
    }

    /** "CUT: ARC i of a BLOCK is gone (those behind it come up)": the first, the middle, the last, the only one. */
    private static void cutEach() {
        String[] want = {"a1,2 b c", "a0,2 b c", "a0,1 b c"};
        for (int i = 0; i < 3; i++) {
            Both x = Check.of("G3a012bc");
            Check.due("cut(0, " + i + ")", x.cut(0, i), i);
            pictureIs("cut(0, " + i + ")", x, want[i]);
            Check.due("cut(0, 2)", x.cut(0, 2), UNKNOWN);
        }
        Both y = Check.of("G1a0");
        Check.due("cut(0, 1)", y.cut(0, 1), UNKNOWN);
        Check.due("cut(0, -1)", y.cut(0, -1), UNKNOWN);
        Check.due("cut(0, 0)", y.cut(0, 0), 0);
        Check.due("cut(0, 0) of none", y.cut(0, 0), UNKNOWN);
        Both z = Check.pictured(TWELVE);
        Check.due("cut(11, 0)", z.cut(11, 0), 0);
        Check.due("cut(10, 0)", z.cut(10, 0), 11);
        Check.due("cut(12, 0)", z.cut(12, 0), UNKNOWN);
    }

    /** "SPLIT: the number of the new one": each number up to the twelfth BLOCK; "FULL: there are 12." */
    private static void splitUntilFull() {
        Both x = Check.of("G2a1b1");
        for (int made = 2; made < 12; made++) {
            Check.due("split(" + (made == 2 ? 0 : made - 1) + ", 1)", x.split(made == 2 ? 0 : made - 1, 1), made);
            Check.due("about(0)", x.about(0), made + 1);
        }
        Check.due("split(11, 1)", x.split(11, 1), FULL);
        Check.due("split(1, 1)", x.split(1, 1), FULL);
        pictureIs("twelve", x, "a2 b1 b3 b4 b5 b6 b7 b8 b9 b10 b11 b1");
        Check.due("about(8)", x.about(8), 10);
        Check.due("undo()", x.undo(), 9);
        Check.due("split(10, 1), there is room again", x.split(10, 1), 11);
        Check.due("split(11, 1)", x.split(11, 1), FULL);
    }

    /** "UNKNOWN: both; LATE: there is no ARC; FULL": of several what is told first. */
    private static void splitOfSeveral() {
        Both x = Check.pictured(TWELVE);
        Check.due("split(12, 0)", x.split(12, 0), UNKNOWN);
        Check.due("split(0, 12)", x.split(0, 12), UNKNOWN);
        Check.due("split(-1, 0)", x.split(-1, 0), UNKNOWN);
        Check.due("split(0, -1)", x.split(0, -1), UNKNOWN);
        Check.due("split(0, 2)", x.split(0, 2), LATE);
        Check.due("split(1, 0)", x.split(1, 0), LATE);
        Check.due("split(0, 1)", x.split(0, 1), FULL);
        Check.due("split(11, 0)", x.split(11, 0), FULL);
        Both y = Check.pictured(ELEVEN);
        Check.due("split(11, 0)", y.split(11, 0), UNKNOWN);
        Check.due("split(0, 11)", y.split(0, 11), UNKNOWN);
        Check.due("split(0, 2)", y.split(0, 2), LATE);
        Check.due("split(10, 0)", y.split(10, 0), 11);
        pictureIs("the twelfth", y, "a1 b2 c3 d4 e5 f6 g7 h8 a9 a10 a11 a1");
    }

    /** "then each ARC of p (not of the new one) to x goes to the new one": one, two, three of them. */
    private static void splitEachArc() {
        String[] texts = {"G3a1b1c", "G3a11b1c", "G3a111b1c", "G3a121b1c", "G3a212b1c", "G3a1b1c1"};
        String[] want = {"a3 b1 c b1", "a3,3 b1 c b1", "a3,3,3 b1 c b1", "a3,2,3 b1 c b1", "a2,3,2 b1 c b1", "a3 b1 c1 b1"};
        for (int i = 0; i < texts.length; i++) {
            Both x = Check.of(texts[i]);
            Check.due("split(0, 1) of " + texts[i], x.split(0, 1), 3);
            pictureIs("split(0, 1) of " + texts[i], x, want[i]);
        }
    }

    /** "with ACT and ARCS that x has": none to three; and p may be x, whose copy goes to x as x did. */
    private static void splitCopies() {
        String[] texts = {"G2a1z", "G2a1z1", "G2a1z01", "G2a1z101"};
        String[] want = {"a2 z z", "a2 z1 z1", "a2 z0,1 z0,1", "a2 z1,0,1 z1,0,1"};
        for (int i = 0; i < texts.length; i++) {
            Both x = Check.of(texts[i]);
            Check.due("split(0, 1) of " + texts[i], x.split(0, 1), 2);
            pictureIs("split(0, 1) of " + texts[i], x, want[i]);
        }
        Both y = Check.of("G1a0");
        Check.due("split(0, 0)", y.split(0, 0), 1);
        pictureIs("p is x", y, "a1 a0");
        Both z = Check.of("G2a1b101");
        Check.due("split(1, 1)", z.split(1, 1), 2);
        pictureIs("p is x", z, "a1 b2,0,2 b1,0,1");
    }

    /** "p has an ARC to x": a BLOCK without an ORDER can be split, too, and be split off. */
    private static void splitWhereNoOneComes() {
        Both x = Check.of("G3ab2c1");
        Check.due("split(1, 2)", x.split(1, 2), 3);
        Check.due("split(3, 1)", x.split(3, 1), 4);
        pictureIs("no one comes there", x, "a b3 c1 c4 b3");
    }

    /** "LATE: no BLOCK is MANY-ENTERED": of none, of tame ones, of what has no ORDER. */
    private static void mendOfNone() {
        String[] texts = {"G1a", "G1a0", "G2a1b0", "G4ab23c3d2", "G3a12b0c0"};
        for (String text : texts) {
            Both x = Check.of(text);
            Check.due("mend() of " + text, x.mend(), LATE);
            Check.due("about(8)", x.about(8), 0);
        }
        Check.due("mend() of no block", new Both().mend(), LATE);
    }

    private static void mended(String picture, int splits, String want, int manyEntered) {
        Both x = Check.pictured(picture);
        Check.due("would(0) of " + picture, x.would(0), splits);
        Check.due("mend() of " + picture, x.mend(), splits);
        pictureIs("mend() of " + picture, x, want);
        Check.due("about(4)", x.about(4), manyEntered);
        Check.due("about(8): one doing, however many splits", x.about(8), 1);
        Check.due("undo()", x.undo(), 0);
        pictureIs("undone", x, picture);
    }

    /** "if there are 12 BLOCKS .. one stops": with the last block it is mended; one block less is not enough. */
    private static void mendWithTheRoomThereIs() {
        mended("a1,2 b2 c1", 1, "a1,3 b2 c1 c1", 0);
        mended("a1,2 b2 c1 d e f g h a a a", 1, "a1,11 b2 c1 d e f g h a a a c1", 0);
        mended("a1,2 b2 c1 d e f g h a a a a", 0, "a1,2 b2 c1 d e f g h a a a a", 1);
        mended("a1,2,3 b2 c1 d2 e f g h a a", 2, "a1,10,3 b2 c1 d11 e f g h a a c1 c1", 0);
        mended("a1,2,3 b2 c1 d2 e f g h a a a", 1, "a1,11,3 b2 c1 d2 e f g h a a a c1", 1);
    }

    /** Splits may never end of themselves: "as long as there is room". */
    private static void mendUntilFull() {
        mended("a2,1 b1,2 c1", 9, "a2,3 b1,2 c1 b4,2 b5,2 b6,2 b7,2 b8,2 b9,2 b10,2 b11,2 b1,2", 1);
    }

    /** "that w of them which has the greatest ORDER": the loop of 3 ahead of that of 1. */
    private static void mendTheLastHeaderFirst() {
        mended("a3,4,1 b2 c1 d4 e3 f2 g h", 1, "a3,8,1 b2 c1 d4 e3 f2 g h e3", 0);
        mended("a1,2,3 b2 c1 d4,5 e5 f4", 2, "a1,7,3 b2 c1 d4,6 e5 f4 f4 c1", 0);
    }

    /** "the least x .. ; of these the least p". */
    private static void mendTheLeastFirst() {
        mended("a1,4,5 b2 c3 d1 e3 f2", 3, "a1,4,5 b2 c3 d1 e7 f6 c8 d1 d1", 0);
        mended("a5,6,1 b3 c3 d4 e3 f2,4 g4", 2, "a5,6,1 b3 c3 d4 e3 f2,7 g8 e3 e3", 0);
    }

    /** "The last DOING is undone: how many are left. LATE: there is none." */
    private static void undoEach() {
        Both x = Check.of("G2a1b");
        Check.due("undo()", x.undo(), LATE);
        Check.due("add(1, 0)", x.add(1, 0), 1);
        Check.due("undo()", x.undo(), 0);
        Check.due("undo()", x.undo(), LATE);
        pictureIs("undone", x, "a1 b");
        Check.due("cut(0, 0)", x.cut(0, 0), 1);
        Check.due("undo()", x.undo(), 0);
        pictureIs("undone", x, "a1 b");
        Check.due("split(0, 1)", x.split(0, 1), 2);
        Check.due("undo()", x.undo(), 0);
        pictureIs("undone", x, "a1 b");
        Check.due("block(2, 0)", x.block(2, 0), UNKNOWN);
        Check.due("undo()", x.undo(), LATE);
    }

    /** A graph in which the arc of block 1 tells how many doings there have been. */
    private static String afterDoings(int count) {
        return "a b" + (count % 2 == 0 ? "" : count / 2 % 8) + " c d e f g h";
    }

    private static Both withDoings(int count) {
        Both x = Check.of("G8abcdefgh");
        for (int i = 1; i <= count; i++) {
            int answer = i % 2 == 1 ? x.add(1, i / 2 % 8) : x.cut(1, 0);
            Check.due("doing " + i, answer, i % 2 == 1 ? 1 : (i - 1) / 2 % 8);
            Check.due("about(8)", x.about(8), Math.min(i, 14));
        }
        return x;
    }

    /** "DOINGS are a row (14 at most; when it is full, the first one is forgotten)". */
    private static void doingsUntilForgotten() {
        for (int count : new int[] {0, 1, 13, 14, 15, 16, 27, 28, 29, 42, 43}) {
            Both x = withDoings(count);
            pictureIs("of " + count, x, afterDoings(count));
            int kept = Math.min(count, 14);
            for (int left = kept - 1; left >= 0; left--) {
                Check.due("undo() of " + count, x.undo(), left);
                pictureIs("undone of " + count, x, afterDoings(count - kept + left));
            }
            Check.due("undo() of none left", x.undo(), LATE);
            Check.due("about(8)", x.about(8), 0);
            pictureIs("at the end of " + count, x, afterDoings(count - kept));
        }
    }

    /** A full row, from which some are undone, takes as many more, and then forgets again. */
    private static void doingsBehindUndoing() {
        Both x = withDoings(20);
        for (int left = 13; left >= 9; left--) {
            Check.due("undo()", x.undo(), left);
        }
        pictureIs("of 15", x, afterDoings(15));
        for (int i = 10; i <= 16; i++) {
            Check.due("add(2, 0) or cut(2, 0)", i % 2 == 0 ? x.add(2, 0) : x.cut(2, 0), i % 2 == 0 ? 1 : 0);
            Check.due("about(8)", x.about(8), Math.min(i, 14));
        }
        for (int left = 13; left >= 0; left--) {
            Check.due("undo()", x.undo(), left);
        }
        Check.due("undo()", x.undo(), LATE);
        pictureIs("two more are forgotten", x, afterDoings(8));
    }

    /** A row of 14 doings, the first of which is an arc of block 3 to itself. */
    private static Both withAFullRow() {
        Both x = Check.of("G4a12b2c1d");
        Check.due("add(3, 3)", x.add(3, 3), 1);
        for (int i = 0; i < 13; i++) {
            Check.due("doing", i % 2 == 0 ? x.add(3, 0) : x.cut(3, 1), i % 2 == 0 ? 2 : 0);
        }
        return x;
    }

    private static void oneMore(String call, ToLongFunction<Both> asked, int want, String atTheEnd) {
        Both x = withAFullRow();
        Check.due(call, asked.applyAsLong(x), want);
        Check.due("about(8)", x.about(8), 14);
        for (int left = 13; left >= 0; left--) {
            Check.due("undo()", x.undo(), left);
        }
        Check.due("undo()", x.undo(), LATE);
        pictureIs("all undone behind " + call, x, atTheEnd);
    }

    /** Each kind of doing forgets the first one of a full row; a refused one does not. */
    private static void eachKindForgets() {
        oneMore("add(3, 1)", x -> x.add(3, 1), 3, "a1,2 b2 c1 d3");
        oneMore("cut(3, 0)", x -> x.cut(3, 0), 3, "a1,2 b2 c1 d3");
        oneMore("split(0, 1)", x -> x.split(0, 1), 4, "a1,2 b2 c1 d3");
        oneMore("mend()", Both::mend, 1, "a1,2 b2 c1 d3");
        oneMore("add(3, 4)", x -> x.add(3, 4), UNKNOWN, "a1,2 b2 c1 d");
        oneMore("cut(3, 2)", x -> x.cut(3, 2), UNKNOWN, "a1,2 b2 c1 d");
        oneMore("split(3, 1)", x -> x.split(3, 1), LATE, "a1,2 b2 c1 d");
    }

    /** "MENDED: if there are 12 BLOCKS .. one stops": it is a DOING without a SPLIT, and can be undone. */
    private static void mendOfNoSplit() {
        Both x = Check.pictured("a1,2 b2 c1 d e f g h a a a a");
        Check.due("mend()", x.mend(), 0);
        Check.due("about(8)", x.about(8), 1);
        Check.due("mend()", x.mend(), 0);
        Check.due("about(8)", x.about(8), 2);
        Check.due("undo()", x.undo(), 1);
        Check.due("undo()", x.undo(), 0);
        Check.due("undo()", x.undo(), LATE);
    }

    /** A doing, and its being undone, leave what is not the graph. */
    private static void whatDoingsLeave() {
        States.leaves(States.USED, "add(3, 0)", x -> x.add(3, 0), 1, NOT_THE_GRAPH);
        States.leaves(States.USED, "cut(0, 0)", x -> x.cut(0, 0), 1, NOT_THE_GRAPH);
        States.leaves(States.USED, "split(0, 3)", x -> x.split(0, 3), 5, NOT_THE_GRAPH);
        States.leaves(States.USED, "mend()", Both::mend, 7, NOT_THE_GRAPH);
        States.leaves(States.USED, "undo()", Both::undo, 2, NOT_THE_GRAPH);
        States.leaves(States.FULL, "cut(11, 0)", x -> x.cut(11, 0), 11, NOT_THE_GRAPH);
        States.leaves(States.FULL, "mend()", Both::mend, 0, NOT_THE_GRAPH);
        States.leaves(States.FULL, "undo()", Both::undo, 13, NOT_THE_GRAPH);
    }

    private static int doneAndUndone(Both x, int answer) {
        return answer < 0 ? answer : x.undo();
    }

    /** Undone, all is as it was: the graph, and the row of doings, if it was not full. */
    private static void undoneIsAsItWas() {
        States.changesNothing(States.USED, "add(3, 0), undo()", x -> doneAndUndone(x, x.add(3, 0)), 3);
        States.changesNothing(States.USED, "cut(0, 1), undo()", x -> doneAndUndone(x, x.cut(0, 1)), 3);
        States.changesNothing(States.USED, "split(0, 2), undo()", x -> doneAndUndone(x, x.split(0, 2)), 3);
        States.changesNothing(States.USED, "mend(), undo()", x -> doneAndUndone(x, x.mend()), 3);
        States.leaves(States.FULL, "cut(11, 0), undo()", x -> doneAndUndone(x, x.cut(11, 0)), 13, Aspect.GRAPH);
        States.leaves(States.FULL, "mend(), undo()", x -> doneAndUndone(x, x.mend()), 13, Aspect.GRAPH);
    }

    public static void main(String[] args) {
        addUntilFull();
        addToTheLast();
        addOfSeveral();
        cutEach();
        splitUntilFull();
        splitOfSeveral();
        splitEachArc();
        splitCopies();
        splitWhereNoOneComes();
        mendOfNone();
        mendWithTheRoomThereIs();
        mendUntilFull();
        mendTheLastHeaderFirst();
        mendTheLeastFirst();
        undoEach();
        doingsUntilForgotten();
        doingsBehindUndoing();
        eachKindForgets();
        mendOfNoSplit();
        whatDoingsLeave();
        undoneIsAsItWas();
        Check.end();
    }
}
