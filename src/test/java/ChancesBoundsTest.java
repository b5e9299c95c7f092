import java.math.BigInteger;

/** Promises 19 to 26, and their terms: each sentence that names a bound, on both of its sides. */
final class ChancesBoundsTest {
    private static final int UNKNOWN = -1, BAD = -2, LATE = -3, FULL = -4, NONE = -9;
    private static final long FACTOR = 6364136223846793005L, STEP = 1442695040888963407L;
    /** By this graph the acts tell each choice. */
    private static final String TELLING = "G3a012b012c012";
    private static final String TWELVE = "a1 b2 c3 d4 e5 f6 g7 h8 a9 a10 a11 a0";

    /** "behind k (0 .. 4) .. the ACT was a letter (1), or was not (0)": each k, letter and was, and those beside. */
    private static void whatCanBeSeen() {
        for (int k = -3; k <= 8; k++) {
            Check.due("see(" + k + ", 'a', 1)", new Both().see(k, 'a', 1), k >= 0 && k <= 4 ? 1 : BAD);
        }
        for (int letter = -3; letter <= 400; letter++) {
            Check.due("see(0, " + letter + ", 0)", new Both().see(0, letter, 0), letter >= 'a' && letter <= 'z' ? 1 : BAD);
        }
        for (int was = -3; was <= 4; was++) {
            Check.due("see(4, 'z', " + was + ")", new Both().see(4, 'z', was), was == 0 || was == 1 ? 1 : BAD);
        }
    }

    /** "6 such at most, none at first", "how many there are", "FULL: 6", "Nothing is SEEN: how much there was." */
    private static void asMuchAsCanBeSeen() {
        for (int count = 0; count <= 6; count++) {
            Both x = new Both();
            for (int i = 1; i <= count; i++) {
                Check.due("see(1, 'b', 1)", x.see(1, 'b', 1), i);
            }
            Check.due("about(9)", x.about(9), count);
            Check.due("one more than " + count, x.see(2, 'c', 0), count < 6 ? count + 1 : FULL);
            Check.due("unsee()", x.unsee(), Math.min(count + 1, 6));
            Check.due("about(9)", x.about(9), 0);
            Check.due("unsee() of nothing", x.unsee(), 0);
            Check.due("see(3, 'd', 1)", x.see(3, 'd', 1), 1);
        }
    }

    /** "BAD: k, letter, was; FULL: 6": of several what is told first. */
    private static void badAheadOfFull() {
        Both x = new Both();
        for (int i = 0; i < 6; i++) {
            x.see(0, 'a', 1);
        }
        Check.due("see(0, 'a', 1)", x.see(0, 'a', 1), FULL);
        Check.due("see(5, 'a', 1)", x.see(5, 'a', 1), BAD);
        Check.due("see(-1, 'a', 1)", x.see(-1, 'a', 1), BAD);
        Check.due("see(0, '{', 1)", x.see(0, '{', 1), BAD);
        Check.due("see(0, '`', 1)", x.see(0, '`', 1), BAD);
        Check.due("see(0, 'a', 2)", x.see(0, 'a', 2), BAD);
        Check.due("see(0, 'a', -1)", x.see(0, 'a', -1), BAD);
    }

    private static void rowsAre(String name, Both x, int count, int first) {
        int[] want = {BAD, BAD, count, first, BAD, BAD};
        for (int what = -2; what <= 3; what++) {
            Check.due(name + ": rows(" + what + ")", x.rows(what), want[what + 2]);
        }
    }

    /** "how many (81 there are); the first one (four figures, the least number); NONE": each row there is. */
    private static void eachRow() {
        for (int number = 0; number < 81; number++) {
            int row = Integer.parseInt(Integer.toString(number, 3));
            Both x = Check.of(TELLING);
            rowsAre("nothing seen", x, 81, 0);
            for (int k = 1; k <= 4; k++) {
                int figure = row / (int) Math.pow(10, 4 - k) % 10;
                x.see(k, 'a' + figure, 1);
            }
            rowsAre("all seen of " + row, x, 1, row);
            Check.due("run(4, " + row + ", 1)", x.run(4, row, 1), 'a' + row % 10);
            x.see(4, 'a' + row % 10, 0);
            rowsAre("and that it was not", x, 0, NONE);
        }
    }

    /** Each k alone, by what was and by what was not; what was seen behind none is the act of the first. */
    private static void eachPlace() {
        int[] firstB = {1000, 100, 10, 1};
        for (int k = 1; k <= 4; k++) {
            Both x = Check.of(TELLING);
            x.see(k, 'b', 1);
            rowsAre("b behind " + k, x, 27, firstB[k - 1]);
            x.unsee();
            x.see(k, 'a', 0);
            rowsAre("no a behind " + k, x, 54, firstB[k - 1]);
            x.unsee();
            x.see(k, 'z', 0);
            rowsAre("no z behind " + k, x, 81, 0);
            x.see(k, 'z', 1);
            rowsAre("z behind " + k, x, 0, NONE);
        }
        Both y = Check.of(TELLING);
        y.see(0, 'a', 1);
        rowsAre("a behind none", y, 81, 0);
        y.see(0, 'b', 0);
        rowsAre("no b behind none", y, 81, 0);
        y.see(0, 'a', 0);
        rowsAre("no a behind none", y, 0, NONE);
    }

    /** "all that is SEEN is so": the first and the last of six count as the others do. */
    private static void allOfSix() {
        Both x = Check.of(TELLING);
        x.see(1, 'a', 0);
        for (int i = 0; i < 4; i++) {
            x.see(0, 'a', 1);
        }
        rowsAre("five", x, 54, 1000);
        x.see(1, 'b', 0);
        rowsAre("six", x, 27, 2000);
        Check.due("see(1, 'c', 0)", x.see(1, 'c', 0), FULL);
        rowsAre("a refused one does not count", x, 27, 2000);
    }

    /** "by THE GRAPH as it is now": what is seen stays, and the rows are others. */
    private static void rowsByTheGraphNow() {
        Both x = Check.of("G2a1b");
        x.see(4, 'b', 1);
        rowsAre("one stays at b", x, 81, 0);
        x.add(0, 0);
        rowsAre("by 1 from a to itself", x, 80, 0);
        x.cut(0, 0);
        rowsAre("only to itself", x, 0, NONE);
        x.undo();
        rowsAre("undone", x, 80, 0);
        x.wipe();
        Check.write(x, "G1b");
        x.graph();
        rowsAre("told anew", x, 81, 0);
        Both y = Check.of("G2a1b0");
        y.see(4, 'a', 1);
        rowsAre("to and fro, behind four", y, 81, 0);
        y.see(3, 'a', 1);
        rowsAre("to and fro, behind three", y, 0, NONE);
        Check.due("about(9)", x.about(9), 1);
    }

    /** "BAD; LATE: there is no BLOCK": of several what is told first. */
    private static void rowsOfSeveral() {
        Both x = States.WITHOUT_BLOCKS.made().get();
        Check.due("rows(0)", x.rows(0), LATE);
        Check.due("rows(1)", x.rows(1), LATE);
        Check.due("rows(2)", x.rows(2), BAD);
        Check.due("rows(-1)", x.rows(-1), BAD);
    }

    private static void tornIs(String picture, int block, int tenths, int above, int below) {
        Both x = Check.pictured(picture);
        String call = "torn(" + block + ", " + tenths + ", ..) of " + picture;
        Check.due(call + " above", x.torn(block, tenths, true), above);
        Check.due(call + " below", x.torn(block, tenths, false), below);
    }

    /** "CUT by x tenths (0 .. 10)": each x, of one, two and three ARCS, in least terms. */
    private static void tornByEachTenth() {
        int[][] one = {{0, 1}, {1, 10}, {1, 5}, {3, 10}, {2, 5}, {1, 2}, {3, 5}, {7, 10}, {4, 5}, {9, 10}, {1, 1}};
        int[][] two = {{0, 1}, {19, 100}, {9, 25}, {51, 100}, {16, 25}, {3, 4}, {21, 25}, {91, 100}, {24, 25}, {99, 100}, {1, 1}};
        int[][] three = {{0, 1}, {109, 1000}, {29, 125}, {363, 1000}, {62, 125}, {5, 8}, {93, 125}, {847, 1000}, {116, 125},
            {981, 1000}, {1, 1}};
        for (int tenths = 0; tenths <= 10; tenths++) {
            tornIs("a1,2 b2 c1", 1, tenths, one[tenths][0], one[tenths][1]);
            tornIs("a1,2 b2 c1", 0, tenths, two[tenths][0], two[tenths][1]);
            tornIs("a1,2,2 b2 c1", 0, tenths, three[tenths][0], three[tenths][1]);
        }
        for (int tenths = -3; tenths <= 13; tenths++) {
            Both x = Check.of("G2a1b0");
            boolean taken = tenths >= 0 && tenths <= 10;
            Check.due("torn(0, " + tenths + ", true)", x.torn(0, tenths, true), taken ? 1 : BAD);
            Check.due("torn(1, " + tenths + ", false)", x.torn(1, tenths, false), taken ? 1 : BAD);
        }
    }

    /** "by itself": by none of three, by all of three, and each of them apart. */
    private static void tornApart() {
        tornIs("a1,2,0 b2 c1", 0, 5, 3, 4);
        tornIs("a0,1,2 b2 c1", 0, 5, 3, 4);
        tornIs("a1,2 b2,2,2 c1", 1, 1, 1, 1000);
        tornIs("a1,2 b2,2,2 c1", 1, 9, 729, 1000);
        tornIs("a1,2 b2,2,2 c1", 1, 2, 1, 125);
        tornIs("a1,2 b2,2,2 c1", 1, 5, 1, 8);
    }

    /** A BLOCK without ARCS, or without an ORDER: what is torn there changes nothing. */
    private static void tornWhereNothingIs() {
        for (int tenths = 0; tenths <= 10; tenths++) {
            tornIs("a1 b", 1, tenths, 1, 1);
            tornIs("a1,2 b2 c1 d", 3, tenths, 0, 1);
            tornIs("a1,2 b2 c1 d1,2,3", 3, tenths, 0, 1);
            tornIs("a b2,3 c3 d2", 1, tenths, 1, 1);
        }
    }

    /** "UNKNOWN; BAD: x": the last BLOCK and the one behind it; of several what is told first. */
    private static void tornOfTheLast() {
        Both x = Check.pictured(TWELVE);
        Check.due("torn(11, 10, true)", x.torn(11, 10, true), 1);
        Check.due("torn(11, 11, true)", x.torn(11, 11, true), BAD);
        Check.due("torn(12, 10, true)", x.torn(12, 10, true), UNKNOWN);
        Check.due("torn(12, 11, false)", x.torn(12, 11, false), UNKNOWN);
        Check.due("torn(-1, -1, false)", x.torn(-1, -1, false), UNKNOWN);
        Check.due("torn(0, -1, false)", x.torn(0, -1, false), BAD);
    }

    /** "THE SEED is v: what it was." "(THE SEED, a long; 0 at first)". */
    private static void seeds() {
        long[] seeds = {0, 1, -1, Long.MAX_VALUE, Long.MIN_VALUE, 1L << 32, Integer.MIN_VALUE, Integer.MAX_VALUE};
        Both x = new Both();
        long was = 0;
        for (long v : seeds) {
            Check.due("seed(" + v + ")", x.seed(v), was);
            was = v;
        }
        Check.due("seed(0)", x.seed(0), was);
        Check.due("a new object's seed", new Both().seed(0), 0);
    }

    private static long wrapped(long v) {
        return BigInteger.valueOf(v).multiply(BigInteger.valueOf(FACTOR)).add(BigInteger.valueOf(STEP)).longValue();
    }

    /** "m times (1 .. 20) x becomes x times .. and .. (64 bits, wrapping)". */
    private static void asManyDraws() {
        long[] seeds = {0, 1, -1, Long.MAX_VALUE, Long.MIN_VALUE, 1L << 33, 77};
        for (int m = -3; m <= 24; m++) {
            for (long v : seeds) {
                Both x = new Both();
                x.seed(v);
                boolean taken = m >= 1 && m <= 20;
                Check.due("drawn(" + m + ")", x.drawn(m), taken ? 0 : BAD);
                long want = v;
                for (int i = 0; taken && i < m; i++) {
                    want = wrapped(want);
                }
                Check.due("the seed behind drawn(" + m + ") from " + v, x.seed(0), want);
            }
        }
    }

    /** The seed by which the first x is the one that is asked for. */
    private static long seedAhead(long x) {
        BigInteger all = BigInteger.ONE.shiftLeft(64);
        BigInteger back = BigInteger.valueOf(FACTOR).modInverse(all);
        return BigInteger.valueOf(x).subtract(BigInteger.valueOf(STEP)).multiply(back).mod(all).longValue();
    }

    private static void drawnOnce(String picture, long first, int want) {
        Both x = Check.pictured(picture);
        x.seed(seedAhead(first));
        Check.due("drawn(1) by " + Long.toHexString(first) + " of " + picture, x.drawn(1), want);
        Check.due("the seed", x.seed(0), first);
    }

    private static long draw(int one, int other, int kind) {
        return (long) (one + 8 * other + 64 * kind) << 33;
    }

    /** "of its upper 31 bits": all of them set, none, the lower 33 alone, the first alone. */
    private static void upperBits() {
        String allAlone = "a1,0 b2,1 c3,2 d4,3 e5,4 f6,5 g7,6 h7";
        drawnOnce(allAlone, -1L, 7);
        drawnOnce("a", 0, 1);
        drawnOnce("a", (1L << 33) - 1, 1);
        drawnOnce("a", 1L << 33, 0);
        drawnOnce("a", Long.MIN_VALUE, 1);
        drawnOnce("a0", Long.MIN_VALUE | draw(0, 0, 3), 0);
        drawnOnce("a b", Long.MIN_VALUE | draw(0, 0, 2), 1);
        drawnOnce("a0 b", 3L << 41, 1);
        drawnOnce("a0 b", 3L << 40, 1);
        drawnOnce("a0 b", 3L << 39, 0);
    }

    /** "left by 8 is a BLOCK, .. another one (it may be the same)": each of eight; "if it can be": there is none of them. */
    private static void eachDrawnBlock() {
        String eight = "a1 b2 c3 d4 e5 f6 g7 h";
        String seven = "a1 b2 c3 d4 e5 f6 g";
        for (int one = 0; one < 8; one++) {
            for (int other = 0; other < 8; other++) {
                int loops = other <= one ? 1 : 0;
                for (int kind = 0; kind < 3; kind++) {
                    drawnOnce(eight, draw(one, other, kind), loops);
                    drawnOnce(seven, draw(one, other, kind), one < 7 && other < 7 ? loops : 0);
                }
            }
        }
    }

    /** "0, 1, 2 it is ADDED .., if it can be": not to a BLOCK with three ARCS. */
    private static void drawnWhereItIsFull() {
        for (int kind = 0; kind < 3; kind++) {
            drawnOnce("a1,1 b", draw(0, 0, kind), 1);
            drawnOnce("a1,1,1 b", draw(0, 0, kind), 0);
        }
    }

    /** "3 the ARC 0 of the one is CUT, if it can be": the first of three, the only one, none; no such BLOCK. */
    private static void drawnCut() {
        for (int other = 0; other < 8; other++) {
            drawnOnce("a0,1 b1", draw(0, other, 3), 1);
            drawnOnce("a1,0,0 b1", draw(0, other, 3), 1);
            drawnOnce("a0,1,0 b1", draw(0, other, 3), 2);
            drawnOnce("a0 b", draw(0, other, 3), 0);
            drawnOnce("a0 b", draw(1, other, 3), 1);
            drawnOnce("a0 b", draw(2, other, 3), 1);
            drawnOnce("a0 b", draw(7, other, 3), 1);
        }
    }

    /** Of twelve BLOCKS the first eight alone are drawn. */
    private static void drawnOfTwelve() {
        String twelve = "a8 b c d e f g h a9 a10 a11 a0";
        drawnOnce(twelve, draw(0, 0, 3), 0);
        drawnOnce(twelve, draw(1, 0, 3), 1);
        drawnOnce(twelve, draw(0, 7, 0), 1);
        drawnOnce(twelve, draw(7, 7, 2), 1);
        drawnOnce(twelve, draw(0, 0, 1), 1);
    }

    /** "BLOCKS of a TYPE that is not 0, each time, together": one draw goes on from the one ahead of it. */
    private static void drawnTogether() {
        Both x = Check.of("G1a");
        long v = seedAhead(draw(0, 0, 0));
        long second = wrapped(draw(0, 0, 0));
        int one = (int) (second >>> 33) % 8;
        int kind = (int) (second >>> 39) % 4;
        x.seed(v);
        Check.due("drawn(2)", x.drawn(2), one == 0 && kind == 3 ? 1 : 2);
        x.seed(v);
        int sum = x.drawn(20);
        Check.due("drawn(20) is between 20 loops and none", sum >= 1 && sum <= 20 ? 1 : 0, 1);
        Check.due("about(3): nothing changes", x.about(3), 0);
        x.seed(v);
        Check.due("drawn(20) from the same seed", x.drawn(20), sum);
    }

    /** "SLOTS 0 .. 1": each of them apart, and those beside. */
    private static void eachSlot() {
        for (int slot = -3; slot <= 4; slot++) {
            boolean known = slot == 0 || slot == 1;
            Both x = Check.of("G2a11b0");
            Check.due("again(" + slot + ")", x.again(slot), known ? LATE : UNKNOWN);
            Check.due("keep(" + slot + ")", x.keep(slot), known ? 3 : UNKNOWN);
            x.cut(0, 0);
            Check.due("again(" + slot + ")", x.again(slot), known ? 3 : UNKNOWN);
            Check.due("about(1)", x.about(1), known ? 3 : 2);
            if (known) {
                Check.due("again(" + (1 - slot) + "), the other", x.again(1 - slot), LATE);
            }
        }
    }

    /** "They are kept: ARCS": of none to all there can be; blocks without an order have theirs, too. */
    private static void keepAll() {
        String[] pictures = {"a", "a b0,0", TWELVE,
            "a1,0,0 b2,1,1 c3,2,2 d4,3,3 e5,4,4 f6,5,5 g7,6,6 h8,7,7 a9,8,8 a10,9,9 a11,10,10 a11,11,11"};
        int[] arcs = {0, 2, 12, 36};
        for (int i = 0; i < pictures.length; i++) {
            Both x = Check.pictured(pictures[i]);
            Check.due("keep(0)", x.keep(0), arcs[i]);
            x.add(0, 0);
            x.cut(0, 0);
            x.cut(0, 0);
            x.split(1, 2);
            Check.due("again(0)", x.again(0), arcs[i]);
            Check.same("again(0)", Check.picture(x), pictures[i]);
        }
    }

    /** Acts are kept, too: where a block was, another may have come. */
    private static void actsAreKept() {
        String eleven = "a1,2 b c d e f g h a a a";
        Both x = Check.pictured(eleven);
        x.split(0, 1);
        x.keep(0);
        x.undo();
        Check.due("split(0, 2)", x.split(0, 2), 11);
        Check.due("block(11, 0)", x.block(11, 0), 'c');
        Check.due("again(0)", x.again(0), 2);
        Check.due("block(11, 0)", x.block(11, 0), 'b');
        Check.due("again(1)", x.again(1), 2);
        Check.same("slot 1", Check.picture(x), eleven);
    }

    /** A slot that is full takes another; what was in it is gone, the other slot is not. */
    private static void keepOver() {
        Both x = Check.of("G2a1b");
        Check.due("keep(0)", x.keep(0), 1);
        x.add(1, 1);
        Check.due("keep(1)", x.keep(1), 2);
        x.add(1, 0);
        Check.due("keep(0)", x.keep(0), 3);
        Check.due("about(8): keep is no doing", x.about(8), 2);
        Check.due("again(1)", x.again(1), 2);
        Check.same("slot 1", Check.picture(x), "a1 b1");
        Check.due("again(0)", x.again(0), 3);
        Check.same("slot 0", Check.picture(x), "a1 b1,0");
        Check.due("again(0), it stays kept", x.again(0), 3);
        Check.due("again(1), it stays kept", x.again(1), 2);
    }

    /** What is done behind keeping or going on does not get into the slot. */
    private static void keptIsApart() {
        Both x = Check.of("G2a1b");
        x.keep(0);
        x.add(0, 0);
        x.again(0);
        Check.same("kept ahead of add", Check.picture(x), "a1 b");
        x.add(1, 1);
        x.split(0, 1);
        x.undo();
        x.again(0);
        Check.same("gone on from, and kept still", Check.picture(x), "a1 b");
    }

    /** "(no DOINGS when one goes on)": of one, of 14; and again as many can be done. */
    private static void noDoingsWhenOneGoesOn() {
        Both x = States.FULL.made().get();
        Check.due("about(8)", x.about(8), 14);
        Check.due("again(1)", x.again(1), 36);
        Check.due("about(8)", x.about(8), 0);
        Check.due("undo()", x.undo(), LATE);
        for (int i = 1; i <= 15; i++) {
            Check.due("cut or add", i % 2 == 1 ? x.cut(0, 2) : x.add(0, 3), 3);
            Check.due("about(8)", x.about(8), Math.min(i, 14));
        }
        for (int left = 13; left >= 0; left--) {
            Check.due("undo()", x.undo(), left);
        }
        Check.due("undo()", x.undo(), LATE);
        Check.due("arc(0, 2), the first cut is forgotten", x.arc(0, 2), UNKNOWN);
    }

    /** "what was kept is gone" by a graph that is told; not by one that is refused, nor by wiping. */
    private static void keptIsGone() {
        Both x = Check.of("G2a1b");
        x.keep(0);
        x.keep(1);
        x.wipe();
        Check.due("graph()", x.graph(), LATE);
        Check.due("again(0)", x.again(0), 1);
        Check.write(x, "G1a");
        Check.due("graph()", x.graph(), 1);
        Check.due("again(0)", x.again(0), LATE);
        Check.due("again(1)", x.again(1), LATE);
        Check.due("keep(1)", x.keep(1), 0);
        Check.due("again(0)", x.again(0), LATE);
        Check.due("again(1)", x.again(1), 0);
    }

    /** An object without blocks can be kept and gone on from, too: there are no arcs. */
    private static void keepOfNothing() {
        Both x = new Both();
        Check.due("keep(1)", x.keep(1), 0);
        Check.due("again(0)", x.again(0), LATE);
        Check.due("again(1)", x.again(1), 0);
        Check.due("about(0)", x.about(0), 0);
    }

    private static final Aspect[] NOT_SEEN = {Aspect.TEXT, Aspect.GRAPH, Aspect.DOINGS, Aspect.SLOTS, Aspect.SEED};
    private static final Aspect[] NOT_THE_SEED = {Aspect.TEXT, Aspect.GRAPH, Aspect.DOINGS, Aspect.SLOTS, Aspect.SEEN};
    private static final Aspect[] NOT_KEPT = {Aspect.TEXT, Aspect.GRAPH, Aspect.DOINGS, Aspect.SEEN, Aspect.SEED};
    private static final Aspect[] NOT_GONE_ON = {Aspect.TEXT, Aspect.SLOTS, Aspect.SEEN, Aspect.SEED};

    /** Each of these calls changes what it is told to change, and nothing else. */
    private static void whatIsLeft() {
        States.leaves(States.USED, "see(0, 'a', 0)", x -> x.see(0, 'a', 0), 3, NOT_SEEN);
        States.leaves(States.USED, "unsee()", Both::unsee, 2, NOT_SEEN);
        States.leaves(States.FULL, "unsee()", Both::unsee, 6, NOT_SEEN);
        States.changesNothing(States.FRESH, "unsee()", Both::unsee, 0);
        States.changesNothing(States.USED, "rows(0)", x -> x.rows(0), 36);
        States.changesNothing(States.FULL, "rows(1)", x -> x.rows(1), NONE);
        States.changesNothing(States.USED, "torn(2, 5, true)", x -> x.torn(2, 5, true), 1);
        States.changesNothing(States.FULL, "torn(11, 5, false)", x -> x.torn(11, 5, false), 1);
        States.leaves(States.USED, "seed(3)", x -> x.seed(3), -77, NOT_THE_SEED);
        States.leaves(States.FULL, "seed(3)", x -> x.seed(3), Long.MIN_VALUE, NOT_THE_SEED);
        States.changesNothing(States.USED, "seed(-77)", x -> x.seed(-77), -77);
        States.leaves(States.WITHOUT_BLOCKS, "drawn(20)", x -> x.drawn(20), 0, NOT_THE_SEED);
        States.leaves(States.USED, "drawn(20)", x -> x.drawn(20), 40, NOT_THE_SEED);
        States.leaves(States.FULL, "drawn(1)", x -> x.drawn(1), 10, NOT_THE_SEED);
        States.leaves(States.USED, "keep(0)", x -> x.keep(0), 8, NOT_KEPT);
        States.leaves(States.FULL, "keep(1)", x -> x.keep(1), 36, NOT_KEPT);
        States.leaves(States.USED, "again(0)", x -> x.again(0), 6, NOT_GONE_ON);
        States.leaves(States.USED, "again(1)", x -> x.again(1), 4, NOT_GONE_ON);
        States.leaves(States.FULL, "again(1)", x -> x.again(1), 36, NOT_GONE_ON);
    }

    public static void main(String[] args) {
        whatCanBeSeen();
        asMuchAsCanBeSeen();
        badAheadOfFull();
        eachRow();
        eachPlace();
        allOfSix();
        rowsByTheGraphNow();
        rowsOfSeveral();
        tornByEachTenth();
        tornApart();
        tornWhereNothingIs();
        tornOfTheLast();
        seeds();
        asManyDraws();
        upperBits();
        eachDrawnBlock();
        drawnWhereItIsFull();
        drawnCut();
        drawnOfTwelve();
        drawnTogether();
        eachSlot();
        keepAll();
        actsAreKept();
        keepOver();
        keptIsApart();
        noDoingsWhenOneGoesOn();
        keptIsGone();
        keepOfNothing();
        whatIsLeft();
        Check.end();
    }
}
