/** Promises 6 to 9, and the terms of walk and loops: each sentence that names a bound, on both of its sides. */
final class GraphBoundsTest {
    private static final int UNKNOWN = -1, BAD = -2, NONE = -9;
    private static final int ALL = 4095;

    /** Twelve loops, one in the other: from the later blocks there is an arc back to each. */
    private static final String NESTED = "a1 b2 c3 d4 e5 f6 g7,0 h8,2,1 a9,4,3 a10,6,5 a11,8,7 a11,10,9";
    /** Twelve loops, one behind the other. */
    private static final String ALONE = "a1,0,0 b2,1,1 c3,2,2 d4,3,3 e5,4,4 f6,5,5 g7,6,6 h8,7,7 a9,8,8 a10,9,9 a11,10,10 a11,11,11";
    /** Eleven blocks to which one does not come, with all the arcs they can have, and loops among them. */
    private static final String LEFT_OUT = "a b0,1,2 c0,1,2 d3,3,3 e5,5,0 f4,4,0 g0,0,0 h0,7,8 a7,8,9 a9,10,11 a11,9,0 a0,10,9";

    private static void aboutIs(String name, Both x, int... want) {
        for (int what = 0; what < want.length; what++) {
            Check.due(name + ": about(" + what + ")", x.about(what), want[what]);
        }
    }

    private static void blocksAre(String name, Both x, int what, int... want) {
        for (int b = 0; b < want.length; b++) {
            Check.due(name + ": block(" + b + ", " + what + ")", x.block(b, what), want[b]);
        }
    }

    private static void setsAre(String name, Both x, int what, int... want) {
        for (int b = 0; b < want.length; b++) {
            Check.due(name + ": sets(" + b + ", " + what + ")", x.sets(b, what), want[b]);
        }
    }

    /** "BLOCKS are 0, 1, .. (12 at most)": the last that there is and the first that there is not. */
    private static void theLastBlock() {
        String[] pictures = {"a", "a1 b", "a b c d e f g h", "a b c d e f g h a", NESTED};
        for (String picture : pictures) {
            Both x = Check.pictured(picture);
            int size = picture.split(" ").length;
            Check.due("about(0)", x.about(0), size);
            for (int what = 0; what <= 5; what++) {
                Check.due("a block is there", x.block(size - 1, what) == UNKNOWN ? 0 : 1, 1);
                Check.due("block(" + size + ", " + what + ")", x.block(size, what), UNKNOWN);
                Check.due("block(-1, " + what + ")", x.block(-1, what), UNKNOWN);
            }
            for (int what = 0; what <= 3; what++) {
                Check.due("a block is there", x.sets(size - 1, what) == UNKNOWN ? 0 : 1, 1);
                Check.due("sets(" + size + ", " + what + ")", x.sets(size, what), UNKNOWN);
                Check.due("sets(-1, " + what + ")", x.sets(-1, what), UNKNOWN);
            }
        }
    }

    /** "0 to 3 ARCS in a row": the last one and the one behind it. */
    private static void theLastArc() {
        Both x = Check.of("G4ab1c10d321");
        for (int b = 0; b < 4; b++) {
            Check.due("block(" + b + ", 1)", x.block(b, 1), b);
            Check.due("arc(" + b + ", " + b + ")", x.arc(b, b), UNKNOWN);
            Check.due("arc(" + b + ", -1)", x.arc(b, -1), UNKNOWN);
            Check.due("arc(" + b + ", 3)", x.arc(b, 3), UNKNOWN);
        }
        Check.due("arc(1, 0)", x.arc(1, 0), 1);
        Check.due("arc(2, 0)", x.arc(2, 0), 1);
        Check.due("arc(2, 1)", x.arc(2, 1), 0);
        Check.due("arc(3, 0)", x.arc(3, 0), 3);
        Check.due("arc(3, 1)", x.arc(3, 1), 2);
        Check.due("arc(3, 2)", x.arc(3, 2), 1);
        Both y = Check.pictured(NESTED);
        Check.due("arc(11, 2)", y.arc(11, 2), 9);
        Check.due("arc(10, 0)", y.arc(10, 0), 11);
        Check.due("arc(11, 3)", y.arc(11, 3), UNKNOWN);
        Check.due("arc(12, 0)", y.arc(12, 0), UNKNOWN);
    }

    /** "an ACT (a letter)": the least and the greatest. */
    private static void acts() {
        Both x = Check.of("G2a0z1");
        blocksAre("acts", x, 0, 'a', 'z');
    }

    /** "about: .. BAD", "block: .. BAD", "sets: .. BAD": each what that is taken, and those beside it. */
    private static void whatIsAsked() {
        Both x = Check.pictured(NESTED);
        for (int what = -3; what <= 14; what++) {
            Check.due("about(" + what + ") is taken", x.about(what) == BAD ? 0 : 1, what >= 0 && what <= 10 ? 1 : 0);
            Check.due("block(11, " + what + ") is taken", x.block(11, what) == BAD ? 0 : 1, what >= 0 && what <= 5 ? 1 : 0);
            Check.due("sets(11, " + what + ") is taken", x.sets(11, what) == BAD ? 0 : 1, what >= 0 && what <= 3 ? 1 : 0);
        }
    }

    /** All that is told by numbers, of no block and of the most of everything. */
    private static void aboutNothingAndAll() {
        aboutIs("new", new Both(), 0, 0, 0, 0, 0, 0, 1, 0, 0, 0, 0);
        aboutIs("one block", Check.of("G1a"), 1, 0, 1, 0, 0, 0, 1, 0, 0, 0, 3);
        aboutIs("one loop", Check.of("G1a0"), 1, 1, 1, 1, 0, 1, 1, 1, 0, 0, 4);
        aboutIs("nested", Check.pictured(NESTED), 12, 23, 12, 12, 0, 12, 1, 12, 0, 0, 10);
        aboutIs("alone", Check.pictured(ALONE), 12, 36, 12, 12, 0, 1, 1, 25, 0, 0, 10);
        aboutIs("left out", Check.pictured(LEFT_OUT), 12, 33, 1, 0, 0, 0, 1, 0, 0, 0, 10);
        aboutIs("full", States.FULL.made().get(), 12, 36, 12, 10, 1, 4, 0, 21, 14, 6, 64);
    }

    /** "DEPTH: 1 for itself, if its TYPE is not 0, and 1 for each HEADER up from it": up to 12. */
    private static void theDeepestNest() {
        Both x = Check.pictured(NESTED);
        for (int b = 0; b < 12; b++) {
            Check.due("block(" + b + ", 2)", x.block(b, 2), b);
            Check.due("block(" + b + ", 3)", x.block(b, 3), b == 0 ? NONE : b - 1);
            Check.due("block(" + b + ", 4)", x.block(b, 4), b == 11 ? 1 : 2);
            Check.due("block(" + b + ", 5)", x.block(b, 5), b + 1);
            int on = ALL & -(1 << b);
            Check.due("sets(" + b + ", 0)", x.sets(b, 0), on);
            Check.due("sets(" + b + ", 1)", x.sets(b, 1), on);
            Check.due("sets(" + b + ", 2)", x.sets(b, 2), on);
            Check.due("sets(" + b + ", 3)", x.sets(b, 3), b == 0 ? 0 : 1 << b - 1);
        }
    }

    /** "TYPE 1 ALONE (THE BODY is empty)": of each of twelve; none is in another. */
    private static void twelveAlone() {
        Both x = Check.pictured(ALONE);
        for (int b = 0; b < 12; b++) {
            Check.due("block(" + b + ", 3)", x.block(b, 3), NONE);
            Check.due("block(" + b + ", 4)", x.block(b, 4), 1);
            Check.due("block(" + b + ", 5)", x.block(b, 5), 1);
            Check.due("sets(" + b + ", 1)", x.sets(b, 1), 1 << b);
        }
    }

    /** "BLOCKS to which one does not come have no ORDER (they, and ARCS from them, count for nothing ..)". */
    private static void leftOut() {
        Both x = Check.pictured(LEFT_OUT);
        blocksAre("the first", x, 2, 0);
        for (int b = 1; b < 12; b++) {
            Check.due("block(" + b + ", 2)", x.block(b, 2), NONE);
            Check.due("block(" + b + ", 3)", x.block(b, 3), NONE);
            Check.due("block(" + b + ", 4)", x.block(b, 4), 0);
            Check.due("block(" + b + ", 5)", x.block(b, 5), 0);
            for (int what = 0; what <= 3; what++) {
                Check.due("sets(" + b + ", " + what + ")", x.sets(b, what), 0);
            }
        }
        setsAre("the first", x, 0, 1);
        setsAre("the first", x, 1, 1);
        setsAre("the first", x, 2, 1);
        setsAre("the first", x, 3, 0);
        Check.due("block(1, 1): arcs are told all the same", x.block(1, 1), 3);
        Check.due("arc(11, 1)", x.arc(11, 1), 10);
    }

    /** Arcs from a block without an order make no entry, no loop, and take nothing from passing. */
    private static void arcsFromWhereNoOneComes() {
        Both with = Check.of("G4a1b2c1d123");
        Both without = Check.of("G4a1b2c1d");
        for (int what = 2; what <= 7; what++) {
            Check.due("about(" + what + ")", with.about(what), without.about(what));
        }
        for (int b = 0; b < 4; b++) {
            for (int what = 0; what <= 3; what++) {
                Check.due("sets(" + b + ", " + what + ")", with.sets(b, what), without.sets(b, what));
            }
        }
        blocksAre("a loop that only looks many-entered", with, 4, 0, 2, 0, 0);
        setsAre("its entries", with, 3, 0, 1, 2, 0);
    }

    /** "by its ARCS in their row, .. to the end of it, ahead of the next ARC": the longest way, both ways round. */
    private static void theLongestWalk() {
        Both x = Check.pictured("a11 b c1 d2 e3 f4 g5 h6 a7 a8 a9 a10");
        blocksAre("backwards", x, 2, 0, 11, 10, 9, 8, 7, 6, 5, 4, 3, 2, 1);
        setsAre("backwards", x, 0, ALL, 2, 6, 14, 30, 62, 126, 254, 510, 1022, 2046, 4094);
        Both y = Check.pictured("a3,2,1 b4,5,6 c7,8,9 d10,11,1 e f g h a a a a");
        blocksAre("three by three", y, 2, 0, 4, 8, 1, 5, 6, 7, 9, 10, 11, 2, 3);
        setsAre("three by three", y, 0, ALL, 114, 900, 3194, 16, 32, 64, 128, 256, 512, 1024, 2048);
    }

    /** "A BLOCK w is ABOVE v, if it is v": an arc to itself is backward; three of them are three. */
    private static void aboveItself() {
        Both x = Check.of("G2a1b111");
        Check.due("about(7)", x.about(7), 3);
        blocksAre("itself", x, 4, 0, 1);
        setsAre("itself", x, 0, 3, 2);
        setsAre("itself: a backward arc is no entry", x, 3, 0, 1);
    }

    /** "v got its ORDER from w on ahead of one having gone back from w": not behind it. */
    private static void notAboveBehindGoingBack() {
        Both x = Check.of("G3a12b2c1");
        setsAre("2 is come to from 1", x, 0, 7, 6, 4);
        Check.due("about(7)", x.about(7), 1);
        Both y = Check.of("G3a12bc1");
        setsAre("1 has been gone back from", y, 0, 7, 2, 4);
        Check.due("about(7)", y.about(7), 0);
        setsAre("an arc across is an entry", y, 3, 0, 5, 1);
    }

    /** "TYPE of w: 0 .. 1 .. 2 .. 3": each of them, each by the least graph that has it. */
    private static void theLeastOfEachType() {
        blocksAre("type 0", Check.of("G1a"), 4, 0);
        blocksAre("type 1", Check.of("G1a0"), 4, 1);
        blocksAre("type 2", Check.of("G2a1b0"), 4, 2, 0);
        blocksAre("type 3", Check.of("G3a12b2c1"), 4, 0, 3, 0);
        blocksAre("an arc to itself in it leaves it", Check.of("G2a10b0"), 4, 2, 0);
        blocksAre("type 3 with an arc to itself", Check.of("G3a12b12c1"), 4, 0, 3, 0);
        blocksAre("entered twice at its header", Check.of("G3a12b2c2"), 4, 0, 0, 1);
        blocksAre("the first can not be many-entered", Check.of("G3a12b20c10"), 4, 2, 3, 0);
    }

    /** Each TYPE of the last of twelve blocks, and of the first, which can not be many-entered. */
    private static void typesOfTheLastBlock() {
        String others = " b c d e f g h a a a ";
        String[] pictures = {"a11" + others + "a", "a11" + others + "a11", "a11 b11 c d e f g h a a a a1", "a11,1 b11 c d e f g h a a a a1"};
        int[] loops = {0, 1, 1, 1};
        for (int type = 0; type <= 3; type++) {
            Both x = Check.pictured(pictures[type]);
            Check.due("block(11, 4) of " + pictures[type], x.block(11, 4), type);
            Check.due("block(11, 5)", x.block(11, 5), loops[type]);
            Check.due("about(3)", x.about(3), loops[type]);
            Check.due("about(4)", x.about(4), type == 3 ? 1 : 0);
            Check.due("about(5)", x.about(5), loops[type]);
            Check.due("about(6)", x.about(6), type == 3 ? 0 : 1);
        }
        Both y = Check.pictured("a11" + others + "a0");
        Check.due("block(0, 4)", y.block(0, 4), 2);
        Check.due("block(11, 3)", y.block(11, 3), 0);
        Check.due("sets(0, 1)", y.sets(0, 1), 2049);
    }

    /** "LEADER .. that of its HEADER": the body holds the loop within, not what is in that. */
    private static void loopsWithinAreGathered() {
        Both x = Check.of("G4a1b2c3d210");
        blocksAre("three headers", x, 3, NONE, 0, 1, 2);
        blocksAre("three headers", x, 5, 1, 2, 3, 3);
        setsAre("three nests", x, 1, 15, 14, 12, 8);
    }

    /** "it is one of ENTRIES of w from then on": at the end it is told, and the loop around is entered, too. */
    private static void entriesThatWereFound() {
        Both x = Check.of("G3a12b2c1");
        setsAre("0 enters at 2", x, 3, 0, 1, 3);
        Both y = Check.of("G5a14b2c3d24e21");
        blocksAre("both are many-entered", y, 4, 0, 3, 3, 0, 0);
        Check.due("about(4)", y.about(4), 2);
    }

    /** "THE NEST of w: w, and all whose HEADER is in it" ("TYPE 0: itself alone"). */
    private static void nestOfNoLoop() {
        Both x = Check.of("G3a1b2c1");
        setsAre("nests", x, 1, 1, 6, 4);
    }

    /** "A BLOCK d PASSES v (both with an ORDER) .. (itself does; THE FIRST does)". */
    private static void passing() {
        Both x = Check.of("G5a12b3c3de3");
        setsAre("a rhomb", x, 2, 15, 2, 4, 8, 0);
        Both y = Check.pictured("a1 b2 c3 d4 e5 f6 g7 h8 a9 a10 a11 a");
        setsAre("a row", y, 2, ALL, 4094, 4092, 4088, 4080, 4064, 4032, 3968, 3840, 3584, 3072, 2048);
        Both z = Check.pictured("a1,11 b2 c3 d4 e5 f6 g7 h8 a9 a10 a11 a");
        setsAre("a way round", z, 2, ALL, 2046, 2044, 2040, 2032, 2016, 1984, 1920, 1792, 1536, 1024, 2048);
    }

    /** "THE GRAPH is TAME, if for each BACKWARD ARC v to w w PASSES v": of none, of itself, of one among many. */
    private static void tame() {
        String[] tame = {"G1a", "G1a0", "G2a1b0", "G3a12b0c0", "G3ab2c1", "G4a12b3c3d0"};
        String[] wild = {"G3a12b2c1", "G3a21b2c1", "G4a012b20c10d", "G4a1b23c3d2"};
        for (String text : tame) {
            Check.due("about(6) of " + text, Check.of(text).about(6), 1);
        }
        for (String text : wild) {
            Check.due("about(6) of " + text, Check.of(text).about(6), 0);
        }
        Check.due("about(6) of no block", new Both().about(6), 1);
    }

    /** Nothing is changed by looking. */
    private static void lookingChangesNothing() {
        for (int what = 0; what <= 10; what++) {
            int asked = what;
            int[] want = {5, 8, 5, 2, 1, 2, 0, 3, 3, 2, 6};
            States.changesNothing(States.USED, "about(" + what + ")", x -> x.about(asked), want[what]);
        }
        int[] blockWant = {'c', 2, 2, 1, 0, 1};
        for (int what = 0; what <= 5; what++) {
            int asked = what;
            States.changesNothing(States.USED, "block(4, " + what + ")", x -> x.block(4, asked), blockWant[what]);
        }
        int[] setsWant = {20, 16, 16, 2};
        for (int what = 0; what <= 3; what++) {
            int asked = what;
            States.changesNothing(States.USED, "sets(4, " + what + ")", x -> x.sets(4, asked), setsWant[what]);
        }
        States.changesNothing(States.USED, "arc(4, 1)", x -> x.arc(4, 1), 2);
        States.changesNothing(States.FULL, "arc(11, 2)", x -> x.arc(11, 2), 6);
    }

    public static void main(String[] args) {
        theLastBlock();
        theLastArc();
        acts();
        whatIsAsked();
        aboutNothingAndAll();
        theDeepestNest();
        twelveAlone();
        leftOut();
        arcsFromWhereNoOneComes();
        theLongestWalk();
        aboveItself();
        notAboveBehindGoingBack();
        theLeastOfEachType();
        typesOfTheLastBlock();
        loopsWithinAreGathered();
        entriesThatWereFound();
        nestOfNoLoop();
        passing();
        tame();
        lookingChangesNothing();
        Check.end();
    }
}
