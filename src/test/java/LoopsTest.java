/** Promises 6 to 9: about, block, arc, sets. */
final class LoopsTest {
    private static final int NONE = NestFinder.NONE;

    private static void aboutIs(Both x, String name, int... want) {
        for (int what = 0; what < want.length; what++) {
            Check.due(name + ": about(" + what + ")", x.about(what), want[what]);
        }
    }

    private static void blocksAre(Both x, String name, int what, int... want) {
        for (int b = 0; b < want.length; b++) {
            Check.due(name + ": block(" + b + ", " + what + ")", x.block(b, what), want[b]);
        }
    }

    private static void setsAre(Both x, String name, int what, int... want) {
        for (int b = 0; b < want.length; b++) {
            Check.due(name + ": sets(" + b + ", " + what + ")", x.sets(b, what), want[b]);
        }
    }

    private static void properLoops() {
        Both x = Check.of("G5a1b2c13d04e");
        String name = "a loop in a loop";
        aboutIs(x, name, 5, 6, 5, 2, 0, 2, 1, 2, 0, 0, 13);
        blocksAre(x, name, 0, 'a', 'b', 'c', 'd', 'e');
        blocksAre(x, name, 1, 1, 1, 2, 2, 0);
        blocksAre(x, name, 2, 0, 1, 2, 3, 4);
        blocksAre(x, name, 3, NONE, 0, 1, 0, NONE);
        blocksAre(x, name, 4, 2, 2, 0, 0, 0);
        blocksAre(x, name, 5, 1, 2, 2, 1, 0);
        setsAre(x, name, 0, 31, 30, 28, 24, 16);
        setsAre(x, name, 1, 15, 6, 4, 8, 16);
        setsAre(x, name, 2, 31, 30, 28, 24, 16);
        setsAre(x, name, 3, 0, 1, 2, 4, 8);
    }

    private static void walkByTheRowOfArcs() {
        Both x = Check.of("G4a21b3c3d");
        String name = "a rhomb";
        aboutIs(x, name, 4, 4, 4, 0, 0, 0, 1, 0, 0, 0, 10);
        blocksAre(x, name, 2, 0, 3, 1, 2);
        setsAre(x, name, 0, 15, 2, 12, 8);
        setsAre(x, name, 1, 1, 2, 4, 8);
        setsAre(x, name, 2, 15, 2, 4, 8);
        setsAre(x, name, 3, 0, 1, 1, 6);
    }

    private static void blocksWithoutOrder() {
        Both x = Check.of("G4a1b0c2d1");
        String name = "blocks that are not come to";
        aboutIs(x, name, 4, 4, 2, 1, 0, 1, 1, 1, 0, 0, 10);
        blocksAre(x, name, 2, 0, 1, NONE, NONE);
        blocksAre(x, name, 3, NONE, 0, NONE, NONE);
        blocksAre(x, name, 4, 2, 0, 0, 0);
        blocksAre(x, name, 5, 1, 1, 0, 0);
        setsAre(x, name, 0, 3, 2, 0, 0);
        setsAre(x, name, 1, 3, 2, 0, 0);
        setsAre(x, name, 2, 3, 2, 0, 0);
        setsAre(x, name, 3, 0, 1, 0, 0);
    }

    private static void aloneLoop() {
        Both x = Check.of("G1a000");
        aboutIs(x, "alone", 1, 3, 1, 1, 0, 1, 1, 3, 0, 0, 6);
        blocksAre(x, "alone", 3, NONE);
        blocksAre(x, "alone", 4, 1);
        setsAre(x, "alone", 3, 0);
        Both y = Check.of("G2a1b01");
        blocksAre(y, "alone in a loop", 4, 2, 1);
        blocksAre(y, "alone in a loop", 5, 1, 2);
        blocksAre(y, "alone in a loop", 3, NONE, 0);
    }

    /** The loop of 1 is entered at 3 as well, which lies in the loop of 2 within it. */
    private static void manyEnteredFromWithin() {
        Both x = Check.of("G4a13b2c31d2");
        String name = "entered within";
        aboutIs(x, name, 4, 6, 4, 2, 2, 2, 0, 2, 0, 0, 12);
        blocksAre(x, name, 3, NONE, NONE, 1, 2);
        blocksAre(x, name, 4, 0, 3, 3, 0);
        blocksAre(x, name, 5, 0, 1, 2, 2);
        setsAre(x, name, 1, 1, 14, 12, 8);
        setsAre(x, name, 2, 15, 2, 4, 8);
        setsAre(x, name, 3, 0, 1, 3, 5);
    }

    /** The loop of 3 is entered from 2, whose leader by then is 1. */
    private static void entriesAreLeaders() {
        Both x = Check.of("G5a31b2c14d4e3");
        String name = "entered from a loop";
        aboutIs(x, name, 5, 7, 5, 2, 1, 1, 0, 2, 0, 0, 14);
        blocksAre(x, name, 2, 0, 3, 4, 1, 2);
        blocksAre(x, name, 3, NONE, NONE, 1, NONE, 3);
        blocksAre(x, name, 4, 0, 2, 0, 3, 0);
        setsAre(x, name, 0, 31, 6, 4, 24, 16);
        setsAre(x, name, 1, 1, 6, 4, 24, 16);
        setsAre(x, name, 2, 31, 6, 4, 8, 16);
        setsAre(x, name, 3, 0, 1, 2, 3, 12);
    }

    private static void loopOfTheFirst() {
        Both x = Check.of("G3a12b0c0");
        blocksAre(x, "two arcs back", 4, 2, 0, 0);
        aboutIs(x, "two arcs back", 3, 4, 3, 1, 0, 1, 1, 2);
        setsAre(x, "two arcs back", 1, 7, 2, 4);
    }

    private static void arcsAreTold() {
        Both x = Check.of("G3a201b1c");
        Check.due("arc(0, 0)", x.arc(0, 0), 2);
        Check.due("arc(0, 1)", x.arc(0, 1), 0);
        Check.due("arc(0, 2)", x.arc(0, 2), 1);
        Check.due("arc(1, 0)", x.arc(1, 0), 1);
        int[][] none = {{0, 3}, {0, -1}, {1, 1}, {2, 0}, {3, 0}, {-1, 0}, {12, 0}, {Integer.MAX_VALUE, 1}, {0, 1 << 31}};
        for (int[] pair : none) {
            Check.due("arc(" + pair[0] + ", " + pair[1] + ")", x.arc(pair[0], pair[1]), NestFinder.UNKNOWN);
        }
    }

    private static void refusals() {
        Both x = Check.of("G3a1bc");
        int[] strangers = {-1, 3, 11, 12, Integer.MIN_VALUE, Integer.MAX_VALUE};
        for (int b : strangers) {
            Check.due("block(" + b + ", 0)", x.block(b, 0), NestFinder.UNKNOWN);
            Check.due("block(" + b + ", 6)", x.block(b, 6), NestFinder.UNKNOWN);
            Check.due("sets(" + b + ", 0)", x.sets(b, 0), NestFinder.UNKNOWN);
            Check.due("sets(" + b + ", 4)", x.sets(b, 4), NestFinder.UNKNOWN);
        }
        Check.due("block(0, -1)", x.block(0, -1), NestFinder.BAD);
        Check.due("block(0, 6)", x.block(0, 6), NestFinder.BAD);
        Check.due("sets(0, -1)", x.sets(0, -1), NestFinder.BAD);
        Check.due("sets(0, 4)", x.sets(0, 4), NestFinder.BAD);
        Check.due("sets(2, 4), no order", x.sets(2, 4), NestFinder.BAD);
        Check.due("about(-1)", x.about(-1), NestFinder.BAD);
        Check.due("about(11)", x.about(11), NestFinder.BAD);
        Check.due("about(MIN)", x.about(Integer.MIN_VALUE), NestFinder.BAD);
    }

    public static void main(String[] args) {
        properLoops();
        walkByTheRowOfArcs();
        blocksWithoutOrder();
        aloneLoop();
        manyEnteredFromWithin();
        entriesAreLeaders();
        loopOfTheFirst();
        arcsAreTold();
        refusals();
        Check.end();
    }
}
