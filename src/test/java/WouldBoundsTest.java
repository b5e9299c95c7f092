/** Promises 15 to 18, and the terms of what would be: each sentence that names a bound, on both of its sides. */
final class WouldBoundsTest {
    private static final int UNKNOWN = -1, BAD = -2, LATE = -3, NONE = -9;
    private static final String ROW = "a1 b2 c3 d4 e5 f6 g7 h8 a9 b10 c11 d";
    /** The depth of block b is b + 1; each but the last is a proper loop. */
    private static final String NESTED = "a1 b2 c3 d4 e5 f6 g7,0 h8,2,1 a9,4,3 a10,6,5 a11,8,7 a11,10,9";
    private static final String ALONE = "a1,0,0 b2,1,1 c3,2,2 d4,3,3 e5,4,4 f6,5,5 g7,6,6 h8,7,7 a9,8,8 a10,9,9 a11,10,10 a11,11,11";

    private static int tens(int exponent) {
        return exponent == 0 ? 1 : 10 * tens(exponent - 1);
    }

    private static void runIs(String text, int n, int row, int want) {
        Check.due("run(" + n + ", " + row + ", 0) of " + text, Check.of(text).run(n, row, 0), want);
    }

    /** "A RUN by n CHOICES (0 .. 8 ..)". */
    private static void asManyChoices() {
        for (int n = -3; n <= 12; n++) {
            Both x = Check.pictured(ROW);
            boolean taken = n >= 0 && n <= 8;
            Check.due("run(" + n + ", 0, 0)", x.run(n, 0, 0), taken ? n : BAD);
            Check.due("run(" + n + ", 0, 1)", x.run(n, 0, 1), taken ? "abcdefgha".charAt(n) : BAD);
        }
    }

    /** "row (0 or more, n figures 0 .. 2)": each row there is of up to four figures, and those beside. */
    private static void eachShortRow() {
        for (int n = 0; n <= 4; n++) {
            for (int row = -2; row <= tens(n) + 2; row++) {
                boolean taken = row >= 0 && row < tens(n) && !Integer.toString(row).matches(".*[3-9].*");
                runIs("G1a", n, row, taken ? 0 : BAD);
            }
        }
    }

    /** The same of five to eight figures: the least and the greatest row, each figure at each place, one figure too many. */
    private static void longRows() {
        for (int n = 5; n <= 8; n++) {
            runIs("G1a", n, 0, 0);
            runIs("G1a", n, -1, BAD);
            runIs("G1a", n, (tens(n) - 1) / 9 * 2, 0);
            runIs("G1a", n, (tens(n) - 1) / 9 * 2 + 1, BAD);
            runIs("G1a", n, tens(n), BAD);
            for (int place = 0; place < n; place++) {
                for (int figure = 0; figure <= 9; figure++) {
                    runIs("G1a", n, figure * tens(place), figure <= 2 ? 0 : BAD);
                }
            }
        }
        runIs("G1a", 8, Integer.MAX_VALUE, BAD);
        runIs("G1a", 8, Integer.MIN_VALUE, BAD);
    }

    /** "that ARC .. which is left of the CHOICE by how many it has (it has none: one stays)". */
    private static void choicesByArcs() {
        String[] texts = {"G4abcd", "G4a3bcd", "G4a32bcd", "G4a321bcd"};
        int[][] want = {{0, 0, 0}, {3, 3, 3}, {3, 2, 3}, {3, 2, 1}};
        for (int arcs = 0; arcs <= 3; arcs++) {
            for (int choice = 0; choice <= 2; choice++) {
                runIs(texts[arcs], 1, choice, want[arcs][choice]);
                runIs(texts[arcs], 8, choice * tens(7), want[arcs][choice]);
            }
        }
    }

    /** "by each CHOICE": the first figure is the first choice. */
    private static void figuresInTheirRow() {
        String text = "G7a12b34c56de0fg";
        runIs(text, 2, 1, 4);
        runIs(text, 2, 10, 5);
        runIs(text, 2, 11, 6);
        runIs(text, 3, 11, 0);
        runIs(text, 3, 110, 6);
        runIs(text, 5, 1000, 3);
        runIs(text, 5, 1001, 4);
        runIs(text, 5, 1010, 5);
        runIs(text, 5, 1011, 6);
        runIs(text, 8, 1000, 3);
        runIs(text, 8, 1001000, 3);
        runIs(text, 8, 1001001, 4);
        runIs(text, 8, 10010010, 5);
        runIs(text, 8, 1001011, 6);
    }

    /** "the BLOCK (what = 0), the ACT, a letter (1)": and those beside. */
    private static void whatOfARun() {
        for (int what = -2; what <= 3; what++) {
            Both x = Check.of("G2y1z");
            Check.due("run(1, 0, " + what + ")", x.run(1, 0, what), what == 0 ? 1 : what == 1 ? 'z' : BAD);
            Check.due("run(0, 0, " + what + ")", x.run(0, 0, what), what == 0 ? 0 : what == 1 ? 'y' : BAD);
        }
    }

    /** "LATE: there is no BLOCK; BAD": of several what is told first. */
    private static void runOfSeveral() {
        int[][] runs = {{0, 0, 0}, {8, 0, 1}, {-1, 0, 0}, {9, 0, 0}, {1, 3, 0}, {1, -1, 0}, {1, 0, 2}, {-1, -1, -1}};
        for (int[] r : runs) {
            Check.due("no block: run(" + r[0] + ", " + r[1] + ", " + r[2] + ")", new Both().run(r[0], r[1], r[2]), LATE);
        }
    }

    /** "runs that show the same acts as before": behind mending, and behind mending without enough room. */
    private static void sameActsAsBefore() {
        for (String text : new String[] {"G6a12b23c35d14e4f0", "G8a12b34c45d16e27f3g5h0", "G4a13b2c31d2", "G3a21b12c1"}) {
            for (int number = 0; number < 81; number++) {
                int row = Integer.parseInt(Integer.toString(number, 3));
                Both x = Check.of(text);
                int act = x.run(8, row * 10000 + row, 1);
                x.mend();
                Check.due("run(8, " + (row * 10000 + row) + ", 1)", x.run(8, row * 10000 + row, 1), act);
            }
        }
    }

    private static void wouldBe(String picture, int splits, int blocks, int none) {
        Both x = Check.pictured(picture);
        int[] want = {BAD, BAD, splits, blocks, none, BAD, BAD};
        for (int what = -2; what <= 4; what++) {
            Check.due("would(" + what + ") of " + picture, x.would(what), want[what + 2]);
        }
        Check.same("nothing is changed", Check.picture(x), picture);
        Check.due("about(8)", x.about(8), 0);
        Check.due("mend() of " + picture, x.mend(), none == 1 && splits == 0 ? LATE : splits);
        Check.due("about(0)", x.about(0), blocks);
        Check.due("no block is many-entered", x.about(4) == 0 ? 1 : 0, none);
    }

    /** "WOULD it be MENDED: how many SPLITS are done; BLOCKS then; 1 if no BLOCK is MANY-ENTERED then, 0." */
    private static void would() {
        wouldBe("a", 0, 1, 1);
        wouldBe("a0", 0, 1, 1);
        wouldBe("a1,2 b2 c1", 1, 4, 1);
        wouldBe("a1,2 b2 c1 d e f g h a a a", 1, 12, 1);
        wouldBe("a1,2 b2 c1 d e f g h a a a a", 0, 12, 0);
        wouldBe("a1,2,3 b2 c1 d2 e f g h a a a", 1, 12, 0);
        wouldBe("a2,1 b1,2 c1", 9, 12, 0);
        wouldBe("a7 b1,2,2 c6 d1,1,2 e3,2,1 f g1 h4", 4, 12, 1);
        wouldBe(NESTED, 0, 12, 1);
        Both x = new Both();
        Check.due("no block: would(0)", x.would(0), 0);
        Check.due("no block: would(1)", x.would(1), 0);
        Check.due("no block: would(2)", x.would(2), 1);
    }

    private static void judged(String picture, int n, long row, int want) {
        Both x = picture.isEmpty() ? new Both() : Check.pictured(picture);
        Check.due("judge(" + n + ", " + row + ") of " + picture, x.judge(n, row), want);
    }

    /** "n doings (1 .. 4)", "row (0 or more, 3 n figures at most)". */
    private static void asManyDoings() {
        long[] first = {0, 1000, 1000000, 1000000000L, 1000000000000L};
        for (int n = -2; n <= 7; n++) {
            judged("a", n, 0, n >= 1 && n <= 4 ? 0 : BAD);
            judged("", n, 0, n >= 1 && n <= 4 ? 0 : BAD);
        }
        for (int n = 1; n <= 4; n++) {
            judged("a", n, -1, BAD);
            judged("a", n, first[n] - 1, 0);
            judged("a", n, first[n], BAD);
            judged("a", n, Long.MAX_VALUE, BAD);
            judged("a", n, Long.MIN_VALUE, BAD);
            judged("a", n, 1L << 32, n == 4 ? 0 : BAD);
        }
        judged("a", 1, 400, NONE);
        judged("a", 2, 400400, NONE);
        judged("a", 3, 400400400, NONE);
        judged("a", 4, 400400400400L, NONE);
    }

    /** "the place of the first that can not be (or is not so); NONE: none": each place there is. */
    private static void eachPlace() {
        judged("a", 4, 410400400400L, 0);
        judged("a", 4, 400410400400L, 1);
        judged("a", 4, 400400410400L, 2);
        judged("a", 4, 400400400410L, 3);
        judged("a", 4, 400410410410L, 1);
        judged("a", 4, 400, 0);
        judged("a", 2, 400, 0);
    }

    /** What is told as none of the eight kinds can not be: each figure at the first place. */
    private static void eachKind() {
        int[] want = {0, NONE, NONE, NONE, NONE, 0, 0, 0, NONE, 0};
        for (int kind = 0; kind <= 9; kind++) {
            judged("a0", 1, kind * 100, want[kind]);
        }
        for (int figures = 0; figures < 100; figures++) {
            judged("a0", 1, figures, 0);
            judged("a0", 1, 900 + figures, 0);
            judged("a0", 1, 400 + figures, figures == 0 ? NONE : 0);
        }
    }

    /** "1, two BLOCKS: ADDED": the last BLOCK and the one behind it, the third ARC and the fourth. */
    private static void judgedAdded() {
        judged("a b", 1, 111, NONE);
        judged("a b", 1, 112, 0);
        judged("a b", 1, 121, 0);
        judged("a b c d e f g h a b", 1, 199, NONE);
        judged("a b c d e f g h a", 1, 198, 0);
        judged("a b c d e f g h a", 1, 189, 0);
        judged("a", 3, 100100100, NONE);
        judged("a", 4, 100100100100L, 3);
        judged("a0", 3, 100100100, 2);
        judged("a0,0,0", 1, 100, 0);
        judged("", 1, 100, 0);
    }

    /** "2, a BLOCK, i: CUT": the last ARC and the one behind it; those behind come up. */
    private static void judgedCut() {
        judged("a0,0,0", 1, 202, NONE);
        judged("a0,0,0", 1, 203, 0);
        judged("a0,0", 1, 202, 0);
        judged("a0,0,0", 3, 200200200, NONE);
        judged("a0,0,0", 4, 200200200200L, 3);
        judged("a0,0,0", 2, 202202, 1);
        judged("a", 1, 200, 0);
        judged("a", 1, 210, 0);
        judged("a b c d e f g h a b9", 1, 290, NONE);
        judged("a b c d e f g h a9 b", 1, 290, 0);
        judged("", 1, 200, 0);
    }

    /** "3, two BLOCKS: SPLIT": as long as there is room, and an ARC. */
    private static void judgedSplit() {
        judged("a1 b2 c3 d4 e5 f6 g7 h0", 4, 301312323334L, NONE);
        judged("a1 b2 c3 d4 e5 f6 g7 h8 a0", 4, 301312323334L, 3);
        judged("a1 b2 c3 d4 e5 f6 g7 h8 a9 a10 a0", 2, 301312, 1);
        judged(ROW, 1, 301, 0);
        judged("a1 b", 1, 300, 0);
        judged("a1 b", 1, 310, 0);
        judged("a1 b", 1, 302, 0);
        judged("a1 b", 1, 320, 0);
        judged("a1 b", 2, 301301, 1);
        judged("a1 b", 2, 301302, NONE);
        judged("", 1, 300, 0);
    }

    /** "4, 0, 0: THE GRAPH is TAME". */
    private static void judgedTame() {
        judged("", 1, 400, NONE);
        judged("a", 1, 400, NONE);
        judged("a1,2 b2 c1", 1, 400, 0);
        judged("a1,2 b2 c1", 2, 200400, NONE);
        judged("a1,2 b2 c1", 2, 302400, NONE);
        judged("a1,2 b2 c", 3, 400121400, 2);
    }

    /** "5, a BLOCK, v: its TYPE is v": each v, of each TYPE, and of a BLOCK without an ORDER. */
    private static void judgedType() {
        String picture = "a1,2,5 b2 c1,3 d3,4 e d6 f5 a";
        int[] types = {0, 3, 0, 1, 0, 2, 0, 0};
        for (int b = 0; b <= 9; b++) {
            for (int v = 0; v <= 9; v++) {
                judged(picture, 1, 500 + 10 * b + v, b < 8 && v == types[b] ? NONE : 0);
            }
        }
        judged(NESTED, 1, 592, NONE);
        judged("", 1, 500, 0);
    }

    /** "6, a BLOCK, v: its DEPTH is v": each v; a DEPTH of 10 can not be told. */
    private static void judgedDepth() {
        for (int b = 0; b <= 9; b++) {
            for (int v = 0; v <= 9; v++) {
                judged(NESTED, 1, 600 + 10 * b + v, v == b + 1 ? NONE : 0);
            }
        }
        judged("a b1", 1, 600, NONE);
        judged("a b1", 1, 610, NONE);
        judged("a b1", 1, 611, 0);
        judged("a b1", 1, 620, 0);
        judged("", 1, 600, 0);
    }

    /** "7, two BLOCKS: the one is HEADER of the other": not of itself, not two steps up, not the other way. */
    private static void judgedHeader() {
        for (int one = 0; one <= 9; one++) {
            for (int other = 0; other <= 9; other++) {
                judged(NESTED, 1, 700 + 10 * one + other, other == one + 1 ? NONE : 0);
            }
        }
        judged("a0", 1, 700, 0);
        judged("a1 b0", 1, 701, NONE);
        judged("a1 b0", 1, 702, 0);
        judged("a1 b0", 1, 721, 0);
        judged("a b1", 1, 701, 0);
        judged("", 1, 700, 0);
    }

    /** "8, two BLOCKS: the one PASSES the other" ("both with an ORDER"). */
    private static void judgedPasses() {
        for (int one = 0; one <= 9; one++) {
            for (int other = 0; other <= 9; other++) {
                judged(ROW, 1, 800 + 10 * one + other, one <= other ? NONE : 0);
            }
        }
        judged("a b1", 1, 800, NONE);
        judged("a b1", 1, 801, 0);
        judged("a b1", 1, 811, 0);
        judged("a b1", 1, 810, 0);
        judged("a b1", 1, 802, 0);
        judged("a b1", 1, 820, 0);
        judged("", 1, 800, 0);
    }

    /** What is told as done is so for all that is told behind it, and for nothing else. */
    private static void sayingsBehindDoings() {
        judged("a1 b", 3, 500110502, NONE);
        judged("a1 b", 3, 600110611, NONE);
        judged("a1 b", 2, 110701, NONE);
        judged("a1 b", 2, 200801, 1);
        judged("a b", 2, 101801, NONE);
        judged("a1 b1", 4, 511210510301L, NONE);
        Both x = Check.of("G2a1b");
        Check.due("judge(2, 110502)", x.judge(2, 110502), NONE);
        Check.due("judge(1, 502), of the graph again", x.judge(1, 502), 0);
        Check.due("judge(1, 301)", x.judge(1, 301), NONE);
        Check.due("judge(1, 302), there is no block 2", x.judge(1, 302), 0);
        Check.due("judge(1, 301)", x.judge(1, 301), NONE);
        Check.due("would(1), there are two blocks", x.would(1), 2);
        Check.due("judge(1, 200)", x.judge(1, 200), NONE);
        Check.due("cut(0, 0)", x.cut(0, 0), 1);
        Check.due("judge(1, 101)", x.judge(1, 101), NONE);
        Check.due("split(0, 1), there is no arc", x.split(0, 1), LATE);
    }

    private static void shareIs(String picture, int block, int i, int above, int below) {
        Both x = Check.pictured(picture);
        String call = "share(" + block + ", " + i + ", ..) of " + picture;
        Check.due(call + " above", x.share(block, i, true), above);
        Check.due(call + " below", x.share(block, i, false), below);
    }

    /** "FRACTIONS are told above (upper = true; less than 0, if they are), below, in least terms." */
    private static void shares() {
        shareIs("a b1", 1, 0, 0, 1);
        shareIs("a0", 0, 0, 1, 1);
        shareIs("a0,0", 0, 0, 1, 2);
        shareIs("a0,0", 0, 1, 1, 2);
        shareIs("a0,0,0", 0, 2, 1, 3);
        shareIs("a1 b0,1", 0, 0, 2, 1);
        shareIs("a0,1 b1,0", 0, 1, 3, 2);
        shareIs("a1,2,1 b2 c2,1", 0, 1, 1, 6);
        shareIs("a1,2,1 b2 c2,1", 0, 0, 7, 6);
        shareIs(ALONE, 0, 0, 11, 1);
        shareIs(ALONE, 0, 2, 1, 2);
        shareIs(ALONE, 11, 2, 1, 3);
    }

    private static void sharesLessThanNothing() {
        shareIs("a0,1,3 b2 c2,3 d2", 1, 0, -1, 1);
        shareIs("a3,2 b2 c1,2 d2,1", 3, 0, -1, 2);
        shareIs("a1,2,2 b2,1,2 c1", 0, 0, -1, 3);
        shareIs("a1,2,1 b2,1 c1", 0, 0, -1, 6);
        shareIs("a3,1 b2,3 c2,0,1 d3,2,1", 3, 1, -2, 3);
        shareIs("a1,2,3 b1,2,3 c3 d1", 0, 0, -5, 6);
        shareIs("a1,0,2 b0,4,2 c3 d4,1 e2,3,4", 1, 1, -3, 2);
    }

    /** "SHARE of ARC i of a BLOCK .. UNKNOWN: block, i": the last that there is and the first that there is not. */
    private static void sharesOfTheLast() {
        for (int arcs = 0; arcs <= 3; arcs++) {
            Both x = Check.of("G1a" + "000".substring(0, arcs));
            for (int i = -1; i <= 4; i++) {
                boolean known = i >= 0 && i < arcs;
                Check.due("share(0, " + i + ", true)", x.share(0, i, true), known ? 1 : UNKNOWN);
                Check.due("share(0, " + i + ", false)", x.share(0, i, false), known ? arcs : UNKNOWN);
            }
            Check.due("share(1, 0, true)", x.share(1, 0, true), UNKNOWN);
            Check.due("share(-1, 0, false)", x.share(-1, 0, false), UNKNOWN);
        }
    }

    /** "In what follows nothing is changed." */
    private static void nothingIsChanged() {
        States.State[] states = {States.USED, States.FULL};
        int[][] want = {{1, 7, 2, 1}, {5, 0, 1, 7}};
        for (int i = 0; i < 2; i++) {
            States.changesNothing(states[i], "run(8, 12012012, 0)", x -> x.run(8, 12012012, 0), want[i][0]);
            States.changesNothing(states[i], "would(0)", x -> x.would(0), want[i][1]);
            States.changesNothing(states[i], "judge(4, 201130212313)", x -> x.judge(4, 201130212313L), want[i][2]);
            States.changesNothing(states[i], "share(0, 0, true)", x -> x.share(0, 0, true), want[i][3]);
        }
        States.changesNothing(States.WITHOUT_BLOCKS, "would(2)", x -> x.would(2), 1);
        States.changesNothing(States.WITHOUT_BLOCKS, "judge(1, 400)", x -> x.judge(1, 400), NONE);
    }

    public static void main(String[] args) {
        asManyChoices();
        eachShortRow();
        longRows();
        choicesByArcs();
        figuresInTheirRow();
        whatOfARun();
        runOfSeveral();
        sameActsAsBefore();
        would();
        asManyDoings();
        eachPlace();
        eachKind();
        judgedAdded();
        judgedCut();
        judgedSplit();
        judgedTame();
        judgedType();
        judgedDepth();
        judgedHeader();
        judgedPasses();
        sayingsBehindDoings();
        shares();
        sharesLessThanNothing();
        sharesOfTheLast();
        nothingIsChanged();
        Check.end();
    }
}
