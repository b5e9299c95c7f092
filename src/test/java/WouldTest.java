/** Promises 15 to 18: run, would, judge, share. */
final class WouldTest {
    private static final int NONE = NestFinder.NONE, BAD = NestFinder.BAD;

    private static void running() {
        Both x = Check.of("G3a12b0c");
        int[][] runs = {{0, 0, 0}, {1, 0, 1}, {1, 1, 2}, {1, 2, 1}, {2, 10, 2}, {2, 1, 0}, {2, 2, 0}, {2, 20, 0},
            {3, 1, 2}, {3, 100, 2}, {3, 10, 1}, {8, 22222222, 0}, {8, 1, 0}, {8, 0, 0}, {7, 2222222, 1}, {8, 10000000, 2}};
        for (int[] r : runs) {
            Check.due("run(" + r[0] + ", " + r[1] + ", 0)", x.run(r[0], r[1], 0), r[2]);
            Check.due("run(" + r[0] + ", " + r[1] + ", 1)", x.run(r[0], r[1], 1), 'a' + r[2]);
        }
        Both y = Check.of("G4a123b0c0d0");
        Check.due("three arcs: run(1, 2, 0)", y.run(1, 2, 0), 3);
        Check.due("three arcs: run(3, 201, 0)", y.run(3, 201, 0), 2);
        Check.due("three arcs: run(3, 102, 1)", y.run(3, 102, 1), 'd');
        Check.due("nothing changes", y.about(8), 0);
    }

    private static void wrongRuns() {
        Both x = Check.of("G3a12b0c");
        int[][] wrong = {{-1, 0, 0}, {9, 0, 0}, {9, 222222222, 0}, {1, -1, 0}, {1, 3, 0}, {1, 9, 0}, {1, 10, 0},
            {2, 30, 0}, {2, 100, 0}, {2, 13, 0}, {0, 1, 0}, {0, -1, 0}, {8, 100000000, 0}, {8, 30000000, 0},
            {8, Integer.MIN_VALUE, 0}, {8, Integer.MAX_VALUE, 0}, {Integer.MAX_VALUE, 0, 0}, {Integer.MIN_VALUE, 0, 0},
            {1, 0, -1}, {1, 0, 2}};
        for (int[] r : wrong) {
            Check.due("run(" + r[0] + ", " + r[1] + ", " + r[2] + ")", x.run(r[0], r[1], r[2]), BAD);
        }
        Check.due("no block: run(9, 5, 7)", new Both().run(9, 5, 7), NestFinder.LATE);
    }

    private static void actsStayWhenMended() {
        Both x = Check.of("G6a12b23c35d14e4f0");
        int[] rows = {1021, 0, 2222, 1111, 1010, 101, 1202};
        int[] acts = new int[rows.length];
        for (int i = 0; i < rows.length; i++) {
            acts[i] = x.run(4, rows[i], 1);
        }
        x.mend();
        for (int i = 0; i < rows.length; i++) {
            Check.due("run(4, " + rows[i] + ", 1)", x.run(4, rows[i], 1), acts[i]);
        }
    }

    private static void wouldBe(String text, int splits, int blocks, int none) {
        Both x = Check.of(text);
        String was = Check.picture(x);
        Check.due("would(0) of " + text, x.would(0), splits);
        Check.due("would(1) of " + text, x.would(1), blocks);
        Check.due("would(2) of " + text, x.would(2), none);
        Check.due("would(-1)", x.would(-1), BAD);
        Check.due("would(3)", x.would(3), BAD);
        Check.same("nothing changes", Check.picture(x), was);
        Check.due("about(8)", x.about(8), 0);
    }

    private static void would() {
        wouldBe("G1a", 0, 1, 1);
        wouldBe("G2a1b0", 0, 2, 1);
        wouldBe("G3a12b2c1", 1, 4, 1);
        wouldBe("G4a123b2c1d2", 2, 6, 1);
        wouldBe("G4a13b2c31d2", 8, 12, 0);
        wouldBe("G8a12b34c45d16e27f3g5h0", 4, 12, 0);
        Both empty = new Both();
        Check.due("no block: would(0)", empty.would(0), 0);
        Check.due("no block: would(1)", empty.would(1), 0);
        Check.due("no block: would(2)", empty.would(2), 1);
    }

    private static void judged(String text, int n, long row, int want) {
        Both x = text.isEmpty() ? new Both() : Check.of(text);
        String was = Check.picture(x);
        Check.due("judge(" + n + ", " + row + ") of " + was, x.judge(n, row), want);
        Check.same("nothing changes", Check.picture(x), was);
        Check.due("about(8)", x.about(8), 0);
    }

    private static void judgedDoings() {
        String x = "G3a12b2c1";
        judged(x, 1, 100, NONE);
        judged(x, 1, 122, NONE);
        judged(x, 1, 130, 0);
        judged(x, 1, 103, 0);
        judged(x, 2, 100100, 1);
        judged(x, 1, 201, NONE);
        judged(x, 1, 202, 0);
        judged(x, 1, 230, 0);
        judged(x, 2, 110211, NONE);
        judged(x, 3, 200200200, 2);
        judged(x, 1, 302, NONE);
        judged(x, 1, 300, 0);
        judged(x, 1, 303, 0);
        judged(x, 1, 330, 0);
        judged(x, 3, 302231130, 1);
        judged(x, 3, 302230130, NONE);
        judged(x, 4, 302302130400L, 1);
        judged(x, 1, 0, 0);
        judged(x, 1, 900, 0);
        judged(x, 2, 100, 0);
        judged(x, 2, 100000, 1);
    }

    private static void judgedSayings() {
        String x = "G4a12b2c1d3";
        judged(x, 1, 400, 0);
        judged(x, 2, 302400, NONE);
        judged(x, 2, 302410, 1);
        judged(x, 2, 302401, 1);
        judged(x, 4, 500513520530L, NONE);
        judged(x, 1, 512, 0);
        judged(x, 1, 540, 0);
        judged(x, 4, 600611621630L, NONE);
        judged(x, 1, 612, 0);
        judged(x, 1, 640, 0);
        judged(x, 1, 712, NONE);
        judged(x, 1, 721, 0);
        judged(x, 1, 701, 0);
        judged(x, 1, 741, 0);
        judged(x, 1, 714, 0);
        judged(x, 4, 800801802811L, NONE);
        judged(x, 1, 812, 0);
        judged(x, 1, 810, 0);
        judged(x, 1, 833, 0);
        judged(x, 1, 803, 0);
        judged(x, 1, 804, 0);
        judged(x, 1, 840, 0);
        judged(x, 4, 201812600512L, NONE);
        judged("", 1, 400, NONE);
        judged("", 1, 500, 0);
    }

    private static void wrongJudged() {
        String x = "G3a12b2c1";
        long[][] wrong = {{0, 0}, {5, 0}, {-1, 0}, {Integer.MAX_VALUE, 0}, {Integer.MIN_VALUE, 0}, {1, -1}, {1, 1000},
            {2, 1000000}, {3, 1000000000L}, {4, 1000000000000L}, {4, Long.MAX_VALUE}, {4, Long.MIN_VALUE}};
        for (long[] w : wrong) {
            judged(x, (int) w[0], w[1], BAD);
        }
        judged(x, 4, 999999999999L, 0);
    }

    private static void judgedWithoutRoom() {
        Both x = Check.of("G1a0");
        x.split(0, 0);
        for (int b = 1; b < 10; b++) {
            x.split(b, b - 1);
        }
        Check.due("about(0)", x.about(0), 11);
        Check.due("judge(1, 398)", x.judge(1, 398), 0);
        Check.due("judge(1, 389)", x.judge(1, 389), NONE);
        Check.due("judge(2, 389378)", x.judge(2, 389378), 1);
    }

    private static void shareIs(Both x, int block, int i, int above, int below) {
        String was = Check.picture(x);
        String call = "share(" + block + ", " + i + ", ";
        Check.due(call + "true) of " + was, x.share(block, i, true), above);
        Check.due(call + "false) of " + was, x.share(block, i, false), below);
        Check.same("nothing changes", Check.picture(x), was);
    }

    private static void shares() {
        Both x = Check.of("G2a011b011");
        shareIs(x, 0, 0, 1, 3);
        shareIs(x, 0, 1, 5, 6);
        shareIs(x, 0, 2, 5, 6);
        Both y = Check.of("G3a211b2c12");
        shareIs(y, 0, 0, -1, 3);
        Both z = Check.of("G3a1b0c0");
        shareIs(z, 0, 0, 1, 1);
        shareIs(z, 1, 0, 1, 1);
        shareIs(z, 2, 0, 0, 1);
        Both one = Check.of("G1a00");
        shareIs(one, 0, 0, 1, 2);
        shareIs(one, 0, 1, 1, 2);
    }

    private static void wrongShares() {
        Both x = Check.of("G2a01b");
        int[][] strangers = {{0, 2}, {0, -1}, {1, 0}, {2, 0}, {-1, 0}, {12, 0}, {0, Integer.MAX_VALUE}, {Integer.MIN_VALUE, 0}};
        for (int[] s : strangers) {
            Check.due("share(" + s[0] + ", " + s[1] + ", true)", x.share(s[0], s[1], true), NestFinder.UNKNOWN);
            Check.due("share(" + s[0] + ", " + s[1] + ", false)", x.share(s[0], s[1], false), NestFinder.UNKNOWN);
        }
    }

    public static void main(String[] args) {
        running();
        wrongRuns();
        actsStayWhenMended();
        would();
        judgedDoings();
        judgedSayings();
        wrongJudged();
        judgedWithoutRoom();
        shares();
        wrongShares();
        Check.end();
    }
}
