/** Promises 10 to 14: add, cut, split, mend, undo. */
final class DoingsTest {
    private static final int UNKNOWN = NestFinder.UNKNOWN, LATE = NestFinder.LATE, FULL = NestFinder.FULL;

    private static void adding() {
        Both x = Check.of("G2a1b");
        Check.due("add(0, 0)", x.add(0, 0), 2);
        Check.due("add(0, 1)", x.add(0, 1), 3);
        Check.due("add(0, 0), a fourth", x.add(0, 0), FULL);
        int[][] strangers = {{2, 0}, {0, 2}, {-1, 0}, {0, -1}, {12, 0}, {0, 12}, {Integer.MAX_VALUE, 0}};
        for (int[] pair : strangers) {
            Check.due("add(" + pair[0] + ", " + pair[1] + ")", x.add(pair[0], pair[1]), UNKNOWN);
        }
        Check.due("add(1, 0)", x.add(1, 0), 1);
        Check.same("picture", Check.picture(x), "a1,0,1 b0");
        Check.due("about(8): refusals are no doings", x.about(8), 3);
    }

    private static void cutting() {
        Both x = Check.of("G3a121b2c");
        int[][] strangers = {{0, 3}, {0, -1}, {2, 0}, {3, 0}, {-1, 0}, {12, 0}, {0, Integer.MAX_VALUE}};
        for (int[] pair : strangers) {
            Check.due("cut(" + pair[0] + ", " + pair[1] + ")", x.cut(pair[0], pair[1]), UNKNOWN);
        }
        Check.due("cut(0, 1)", x.cut(0, 1), 2);
        Check.same("picture", Check.picture(x), "a1,1 b2 c");
        Check.due("cut(0, 2), gone up", x.cut(0, 2), UNKNOWN);
        Check.due("cut(0, 1)", x.cut(0, 1), 1);
        Check.due("cut(0, 0)", x.cut(0, 0), 1);
        Check.due("cut(0, 0) of none", x.cut(0, 0), UNKNOWN);
        Check.same("picture", Check.picture(x), "a b2 c");
        Check.due("about(8)", x.about(8), 3);
        Both y = Check.of("G3a012b2c");
        Check.due("cut(0, 0)", y.cut(0, 0), 0);
        Check.same("picture", Check.picture(y), "a1,2 b2 c");
    }

    private static void splitting() {
        Both x = Check.of("G3a121b20c0");
        Check.due("split(0, 1)", x.split(0, 1), 3);
        Check.same("picture", Check.picture(x), "a3,2,3 b2,0 c0 b2,0");
        Check.due("split(0, 1), no arc any more", x.split(0, 1), LATE);
        Check.due("split(1, 1)", x.split(1, 1), LATE);
        Check.due("split(0, 4)", x.split(0, 4), UNKNOWN);
        Check.due("split(4, 0)", x.split(4, 0), UNKNOWN);
        Check.due("split(-1, 0)", x.split(-1, 0), UNKNOWN);
        Check.due("split(0, -1)", x.split(0, -1), UNKNOWN);
        Check.due("split(3, 2)", x.split(3, 2), 4);
        Check.same("picture", Check.picture(x), "a3,2,3 b2,0 c0 b4,0 c0");
        Check.due("about(8)", x.about(8), 2);
    }

    private static void splittingOfItself() {
        Both x = Check.of("G2a010b");
        Check.due("split(0, 0)", x.split(0, 0), 2);
        Check.same("picture", Check.picture(x), "a2,1,2 b a0,1,0");
    }

    private static void splittingWhereNoOneComes() {
        Both x = Check.of("G3ab2c");
        Check.due("split(1, 2)", x.split(1, 2), 3);
        Check.same("picture", Check.picture(x), "a b3 c c");
    }

    private static void splittingUntilFull() {
        Both x = Check.of("G1a0");
        Check.due("split(0, 0)", x.split(0, 0), 1);
        for (int b = 1; b < 11; b++) {
            Check.due("split(" + b + ", " + (b - 1) + ")", x.split(b, b - 1), b + 1);
        }
        Check.due("split(11, 10), a thirteenth", x.split(11, 10), FULL);
        Check.due("split(0, 0), no arc", x.split(0, 0), LATE);
        Check.due("split(0, 12)", x.split(0, 12), UNKNOWN);
        Check.same("picture", Check.picture(x), "a1 a2 a3 a4 a5 a6 a7 a8 a9 a10 a11 a10");
        Check.due("add(11, 0)", x.add(11, 0), 2);
        Check.due("sets(0, 1) of twelve", x.sets(0, 1), 4095);
        Check.due("arc(11, 1)", x.arc(11, 1), 0);
        Check.due("undo()", x.undo(), 11);
        Check.due("undo()", x.undo(), 10);
        Check.due("about(0)", x.about(0), 11);
    }

    private static void mending() {
        Both x = Check.of("G3a12b2c1");
        Check.due("mend()", x.mend(), 1);
        Check.same("picture", Check.picture(x), "a1,3 b2 c1 c1");
        Check.due("about(6)", x.about(6), 1);
        Check.due("about(8)", x.about(8), 1);
        Check.due("mend() of none", x.mend(), LATE);
        Check.due("about(8) behind a refusal", x.about(8), 1);
        Check.due("mend() of a tame one", Check.of("G2a1b0").mend(), LATE);
    }

    private static void mendingTakesTheLeastFirst() {
        Both x = Check.of("G4a123b2c1d2");
        Check.due("mend()", x.mend(), 2);
        Check.same("two ways in", Check.picture(x), "a1,4,3 b2 c1 d5 c1 c1");
        Both y = Check.of("G4a12b2c1d2");
        Check.due("mend()", y.mend(), 1);
        Check.same("from a block without order", Check.picture(y), "a1,4 b2 c1 d2 c1");
        Both z = Check.of("G4a132b3c1d2");
        Check.due("mend()", z.mend(), 3);
        Check.same("a copy enters, too", Check.picture(z), "a1,5,4 b3 c1 d2 c1 d6 c1");
    }

    private static void mendingTakesTheLastHeaderFirst() {
        Both x = Check.of("G4a13b2c31d2");
        Check.due("mend()", x.mend(), 8);
        Check.same("entered within", Check.picture(x), "a1,4 b2 c3,1 d2 d5 c6,1 d7 c8,1 d9 c10,1 d11 c3,1");
        Check.due("about(4)", x.about(4), 2);
    }

    private static void mendingWithoutRoom() {
        Both x = Check.of("G8a12b34c45d16e27f3g5h0");
        Check.due("mend()", x.mend(), 4);
        Check.due("about(0)", x.about(0), 12);
        Check.due("about(4)", x.about(4), 2);
        Check.due("mend() without room", x.mend(), 0);
        Check.due("about(8): that was a doing", x.about(8), 2);
        Check.due("undo()", x.undo(), 1);
        Check.due("about(0)", x.about(0), 12);
        Check.due("undo()", x.undo(), 0);
        Check.same("picture", Check.picture(x), "a1,2 b3,4 c4,5 d1,6 e2,7 f3 g5 h0");
    }

    private static void undoing() {
        Both x = Check.of("G3a12b2c1");
        String[] pictures = new String[5];
        pictures[0] = Check.picture(x);
        x.add(2, 2);
        pictures[1] = Check.picture(x);
        x.cut(0, 0);
        pictures[2] = Check.picture(x);
        x.add(0, 1);
        pictures[3] = Check.picture(x);
        x.split(1, 2);
        pictures[4] = Check.picture(x);
        x.mend();
        x.see(0, 'a', 1);
        x.seed(4);
        x.keep(1);
        int left = x.about(8);
        for (int i = left - 1; i >= 0; i--) {
            Check.due("undo()", x.undo(), i);
            Check.same("picture " + i, Check.picture(x), pictures[i]);
        }
        Check.due("undo() of none", x.undo(), LATE);
        Check.due("about(9)", x.about(9), 1);
        Check.due("seed(0)", x.seed(0), 4);
    }

    private static void doingsAreForgotten() {
        Both x = Check.of("G2a1b");
        for (int i = 0; i < 10; i++) {
            Check.due("add(1, 0)", x.add(1, 0), 1);
            Check.due("about(8)", x.about(8), Math.min(14, 2 * i + 1));
            Check.due("cut(1, 0)", x.cut(1, 0), 0);
            Check.due("about(8)", x.about(8), Math.min(14, 2 * i + 2));
        }
        Check.due("add(1, 1)", x.add(1, 1), 1);
        Check.due("about(8)", x.about(8), 14);
        for (int left = 13; left >= 0; left--) {
            Check.due("undo()", x.undo(), left);
            Check.same("picture", Check.picture(x), left % 2 == 1 ? "a1 b" : "a1 b0");
        }
        Check.due("undo()", x.undo(), LATE);
        Check.due("add(1, 1)", x.add(1, 1), 2);
        Check.due("undo()", x.undo(), 0);
        Check.same("picture", Check.picture(x), "a1 b0");
    }

    /** What is tried by other calls in between must not get into a doing. */
    private static void doingsBeginWithTheGraph() {
        Both x = Check.of("G3a12b2c1");
        x.wipe();
        Check.write(x, "G2z1y0");
        x.fault();
        Check.due("add(1, 1)", x.add(1, 1), 2);
        x.would(0);
        Check.due("cut(1, 0)", x.cut(1, 0), 2);
        x.torn(0, 5, true);
        Check.due("split(0, 2)", x.split(0, 2), 3);
        x.drawn(20);
        Check.due("add(1, 2)", x.add(1, 2), 2);
        Check.due("add(3, 2)", x.add(3, 2), 2);
        x.share(0, 0, true);
        Check.due("judge(1, 110)", x.judge(1, 110), NestFinder.NONE);
        x.fault();
        Check.due("judge(1, 400)", x.judge(1, 400), 0);
        x.fault();
        Check.due("mend()", x.mend(), 1);
        Check.same("picture", Check.picture(x), "a1,3 b1,2 c1 c1,4 c1");
    }

    private static void allOfTwelveBlocksComesBack() {
        Both x = Check.of("G8a1b2c3d4e5f6g7h777");
        Check.due("split(7, 7)", x.split(7, 7), 8);
        for (int b = 9; b < 12; b++) {
            Check.due("split(" + (b - 1) + ", " + (b - 2) + ")", x.split(b - 1, b - 2), b);
        }
        String was = Check.picture(x);
        Check.same("picture", was, "a1 b2 c3 d4 e5 f6 g7 h8,8,8 h9,9,9 h10,10,10 h11,11,11 h10,10,10");
        x.keep(1);
        for (int i = 0; i < 3; i++) {
            x.cut(11, 0);
            x.cut(10, 0);
        }
        for (int i = 0; i < 6; i++) {
            x.undo();
        }
        Check.same("undone", Check.picture(x), was);
        x.cut(11, 1);
        x.add(11, 3);
        x.again(1);
        Check.same("kept", Check.picture(x), was);
    }

    private static void actsComeBack() {
        Both x = Check.of("G3a12bc");
        x.split(0, 1);
        x.keep(0);
        x.add(3, 3);
        x.undo();
        x.undo();
        x.split(0, 2);
        Check.same("picture", Check.picture(x), "a1,3 b c c");
        x.again(0);
        Check.same("kept", Check.picture(x), "a3,2 b c b");
    }

    public static void main(String[] args) {
        doingsBeginWithTheGraph();
        allOfTwelveBlocksComesBack();
        actsComeBack();
        adding();
        cutting();
        splitting();
        splittingOfItself();
        splittingWhereNoOneComes();
        splittingUntilFull();
        mending();
        mendingTakesTheLeastFirst();
        mendingTakesTheLastHeaderFirst();
        mendingWithoutRoom();
        undoing();
        doingsAreForgotten();
        Check.end();
    }
}
