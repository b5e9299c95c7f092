/** Promises 1 to 5, and the terms of the text: each sentence that names a bound, on both of its sides. */
final class TextBoundsTest {
    private static final int UNKNOWN = -1, BAD = -2, LATE = -3, FULL = -4, NONE = -9;

    private static int faultOf(String text) {
        Both x = new Both();
        Check.write(x, text);
        return x.fault();
    }

    private static void faultIs(String text, int want) {
        Check.due("fault() of " + text, faultOf(text), want);
    }

    private static boolean isAct(char letter) {
        return letter >= 'a' && letter <= 'z';
    }

    private static boolean isFigure(char letter, int below) {
        return letter >= '0' && letter < '0' + below;
    }

    private static String acts(int count) {
        return "abcdefghijklmnop".substring(0, count);
    }

    /** "At first there is no BLOCK." "A new object: No blocks." */
    private static void noBlocksAtFirst() {
        Both x = new Both();
        Check.due("about(0)", x.about(0), 0);
        for (int b = 0; b <= 12; b++) {
            Check.due("block(" + b + ", 0)", x.block(b, 0), UNKNOWN);
            Check.due("arc(" + b + ", 0)", x.arc(b, 0), UNKNOWN);
            Check.due("sets(" + b + ", 0)", x.sets(b, 0), UNKNOWN);
            Check.due("add(" + b + ", " + b + ")", x.add(b, b), UNKNOWN);
            Check.due("cut(" + b + ", 0)", x.cut(b, 0), UNKNOWN);
            Check.due("split(" + b + ", " + b + ")", x.split(b, b), UNKNOWN);
            Check.due("share(" + b + ", 0, true)", x.share(b, 0, true), UNKNOWN);
            Check.due("torn(" + b + ", 0, false)", x.torn(b, 0, false), UNKNOWN);
        }
        Check.due("run(0, 0, 0)", x.run(0, 0, 0), LATE);
        Check.due("rows(0)", x.rows(0), LATE);
        Check.due("mend()", x.mend(), LATE);
        Check.due("drawn(20)", x.drawn(20), 0);
    }

    /** What else is empty in a new object: no letter, doing, thing seen or kept; the seed is 0. */
    private static void nothingAtFirst() {
        Both x = new Both();
        Check.due("about(8)", x.about(8), 0);
        Check.due("about(9)", x.about(9), 0);
        Check.due("about(10)", x.about(10), 0);
        Check.due("wipe()", x.wipe(), 0);
        Check.due("undo()", x.undo(), LATE);
        Check.due("unsee()", x.unsee(), 0);
        Check.due("again(0)", x.again(0), LATE);
        Check.due("again(1)", x.again(1), LATE);
        Check.due("seed(1)", x.seed(1), 0);
    }

    /** "An object is used for at most 512 calls": the last of them is answered, too. */
    private static void the512thCall() {
        Both x = Check.of("G1a0");
        for (int call = 6; call < 512; call += 2) {
            Check.due("cut(0, 0)", x.cut(0, 0), 0);
            Check.due("add(0, 0)", x.add(0, 0), 1);
        }
        Check.due("about(8), the 512th call", x.about(8), 14);
    }

    /** "A letter (0 .. 255) comes behind THE TEXT". */
    private static void letters() {
        for (int letter = -300; letter <= 600; letter++) {
            Both x = new Both();
            boolean taken = letter >= 0 && letter <= 255;
            Check.due("write(" + letter + ")", x.write(letter), taken ? 1 : BAD);
            Check.due("about(10)", x.about(10), taken ? 1 : 0);
        }
    }

    /** "how long it is." "FULL: there are 64." "THE TEXT is empty: how long it was." */
    private static void lengths() {
        for (int length = 0; length <= 64; length++) {
            Both x = new Both();
            for (int i = 1; i <= length; i++) {
                Check.due("write('G')", x.write('G'), i);
            }
            Check.due("about(10)", x.about(10), length);
            Check.due("one letter more than " + length, x.write('a'), length < 64 ? length + 1 : FULL);
            Check.due("wipe()", x.wipe(), Math.min(length + 1, 64));
            Check.due("about(10)", x.about(10), 0);
            Check.due("wipe() of nothing", x.wipe(), 0);
            Check.due("write('G')", x.write('G'), 1);
        }
    }

    /** "BAD; FULL": of several what is told first. */
    private static void badAheadOfFull() {
        Both x = new Both();
        for (int i = 0; i < 64; i++) {
            x.write(0);
        }
        Check.due("write(255)", x.write(255), FULL);
        Check.due("write(256)", x.write(256), BAD);
        Check.due("write(0)", x.write(0), FULL);
        Check.due("write(-1)", x.write(-1), BAD);
    }

    /** "its length, if it is only not at its end": of no letter, too. */
    private static void faultOfNothing() {
        faultIs("", 0);
        Both x = Check.of("G1a");
        x.wipe();
        Check.due("fault() behind wipe()", x.fault(), 0);
    }

    /** Letters that were wiped are not read any more, whatever they were. */
    private static void faultBehindWiping() {
        String[] wiped = {"G", "G9", "G1", "G1a", "G1a0", "G2a1b", "x", "G8a777b777c777d777e777f777g777h777"};
        String[] then = {"", "G", "G1", "G1a", "G2a"};
        int[] want = {0, 1, 2, NONE, 3};
        for (String ahead : wiped) {
            for (int i = 0; i < then.length; i++) {
                Both x = new Both();
                Check.write(x, ahead);
                x.wipe();
                Check.write(x, then[i]);
                Check.due("fault() of " + then[i] + " behind " + ahead, x.fault(), want[i]);
                Check.due("graph()", x.graph(), want[i] == NONE ? 1 : LATE);
            }
        }
    }

    /** "G": each letter at the first place. */
    private static void faultAtG() {
        for (char c = 0; c <= 255; c++) {
            faultIs("" + c, c == 'G' ? 1 : 0);
            faultIs(c + "1a", c == 'G' ? NONE : 0);
        }
    }

    /** "n (1 .. 8)": each letter at the second place. */
    private static void faultAtN() {
        for (char c = 0; c <= 255; c++) {
            faultIs("G" + c, c >= '1' && c <= '8' ? 2 : 1);
        }
    }

    /** "an ACT (a .. z)": each letter at the third place, at which no ARC can be. */
    private static void faultAtTheFirstAct() {
        for (char c = 0; c <= 255; c++) {
            faultIs("G1" + c, isAct(c) ? NONE : 2);
            faultIs("G8" + c, isAct(c) ? 3 : 2);
        }
    }

    /** "and its ARCS, 0 to 3 figures less than n": each letter behind the first ACT, for each n. */
    private static void faultBehindAnAct() {
        for (int n = 1; n <= 8; n++) {
            for (char c = 0; c <= 255; c++) {
                int behindAct = n == 1 ? 3 : n == 2 ? NONE : 4;
                int behindArc = n == 1 ? NONE : 4;
                faultIs("G" + n + "a" + c, isAct(c) ? behindAct : isFigure(c, n) ? behindArc : 3);
            }
        }
    }

    /** "0 to 3 figures": none, one, two, three, four, of the first BLOCK and of the last one. */
    private static void arcsOfABlock() {
        for (int arcs = 0; arcs <= 3; arcs++) {
            faultIs("G1a" + "000".substring(0, arcs), NONE);
            faultIs("G8a" + "777".substring(0, arcs) + "bcdefgh", NONE);
            faultIs("G8abcdefgh" + "777".substring(0, arcs), NONE);
        }
        faultIs("G1a0000", 6);
        faultIs("G8a7777", 6);
        faultIs("G8a7777bcdefgh", 6);
        faultIs("G8abcdefgh7777", 13);
    }

    /** "figures less than n": n - 1 and n, of the first BLOCK and of the last one. */
    private static void figuresLessThanN() {
        for (int n = 1; n <= 8; n++) {
            String others = acts(n).substring(1);
            faultIs("G" + n + "a" + (n - 1) + others, NONE);
            faultIs("G" + n + "a" + n + others, 3);
            faultIs("G" + n + acts(n) + (n - 1), NONE);
            faultIs("G" + n + acts(n) + n, 2 + n);
            faultIs("G" + n + acts(n) + '/', 2 + n);
        }
        faultIs("G8abcdefgh9", 10);
    }

    /** "then n BLOCKS": one too few, as many, one too many. */
    private static void asManyBlocksAsTold() {
        for (int n = 1; n <= 8; n++) {
            faultIs("G" + n + acts(n - 1), 1 + n);
            faultIs("G" + n + acts(n), NONE);
            faultIs("G" + n + acts(n + 1), 2 + n);
        }
    }

    /** The longest GRAPH has 34 letters; THE TEXT may have more, and its fault is the 35th. */
    private static void theLongestGraph() {
        String longest = "G8a777b777c777d777e777f777g777h777";
        for (int length = 2; length < longest.length(); length++) {
            boolean atEnd = length >= longest.indexOf('h') + 1;
            faultIs(longest.substring(0, length), atEnd ? NONE : length);
        }
        faultIs(longest, NONE);
        Check.due("graph()", Check.of(longest).about(1), 24);
        for (char c = 0; c <= 255; c++) {
            faultIs(longest + c, 34);
        }
        faultIs(longest + "012345678901234567890123456789", 34);
    }

    /** "the place of the first letter by which THE TEXT can be no GRAPH, whatever came behind it". */
    private static void theFirstOfSeveral() {
        faultIs("g9A", 0);
        faultIs("G9A", 1);
        faultIs("G1A9", 2);
        faultIs("G2a2Z", 3);
        faultIs("G1a0bb", 4);
        Both x = new Both();
        Check.write(x, "G2a1");
        Check.due("fault() at its end", x.fault(), 4);
        x.write('{');
        for (int i = 5; i < 64; i++) {
            Check.due("fault() with " + i + " letters", x.fault(), 4);
            x.write("b01a".charAt(i % 4));
        }
        Check.due("fault() with 64 letters", x.fault(), 4);
    }

    /** "THE TEXT is THE GRAPH: how many BLOCKS", for each n. */
    private static void graphOfEachSize() {
        for (int n = 1; n <= 8; n++) {
            Both x = new Both();
            Check.write(x, "G" + n + acts(n));
            Check.due("graph()", x.graph(), n);
            Check.due("about(0)", x.about(0), n);
            Check.due("block(" + (n - 1) + ", 0)", x.block(n - 1, 0), 'a' + n - 1);
            Check.due("block(" + n + ", 0)", x.block(n, 0), UNKNOWN);
            Check.due("graph(), the text stays", x.graph(), n);
        }
    }

    /** "LATE: a FAULT": of a text that is empty, not at its end, wrong, too long. */
    private static void graphWithAFault() {
        String[] texts = {"", "G", "G2", "G2a", "g1a", "G0", "G9", "G1A", "G2a2b", "G1a0000", "G1ab"};
        for (String text : texts) {
            Both x = Check.of("G1z0");
            x.wipe();
            Check.write(x, text);
            Check.due("graph() of " + text, x.graph(), LATE);
            Check.same("graph() of " + text, Check.picture(x), "z0");
            Check.due("about(10)", x.about(10), text.length());
        }
    }

    /** What was there ahead of a smaller GRAPH is gone. */
    private static void graphOfFewerBlocks() {
        Both x = States.FULL.made().get();
        x.wipe();
        Check.write(x, "G1z");
        Check.due("graph()", x.graph(), 1);
        Check.same("picture", Check.picture(x), "z");
        Check.due("arc(0, 0)", x.arc(0, 0), UNKNOWN);
        for (int b = 1; b <= 12; b++) {
            Check.due("block(" + b + ", 1)", x.block(b, 1), UNKNOWN);
        }
        Check.due("about(2)", x.about(2), 1);
        Check.due("about(3)", x.about(3), 0);
    }

    /** "(no DOINGS; what was kept is gone; SEEN, THE SEED stay)". */
    private static void whatGraphLeaves() {
        States.leaves(States.USED, "graph()", Both::graph, 2, Aspect.TEXT, Aspect.SEEN, Aspect.SEED);
        Both x = States.FULL.made().get();
        x.keep(0);
        x.wipe();
        Check.write(x, "G1z");
        Check.due("graph()", x.graph(), 1);
        Check.due("about(8)", x.about(8), 0);
        Check.due("undo()", x.undo(), LATE);
        Check.due("again(0)", x.again(0), LATE);
        Check.due("again(1)", x.again(1), LATE);
        Check.due("about(9)", x.about(9), 6);
        Check.due("seed(0)", x.seed(0), Long.MIN_VALUE);
    }

    /** Letters come and go, and are looked at, without a change of anything else. */
    private static void whatLettersLeave() {
        Aspect[] others = {Aspect.GRAPH, Aspect.DOINGS, Aspect.SLOTS, Aspect.SEEN, Aspect.SEED};
        States.leaves(States.USED, "write('0')", x -> x.write('0'), 7, others);
        States.leaves(States.USED, "wipe()", Both::wipe, 6, others);
        States.leaves(States.FULL, "wipe()", Both::wipe, 64, others);
        States.changesNothing(States.WITHOUT_BLOCKS, "fault()", Both::fault, 3);
        States.changesNothing(States.USED, "fault()", Both::fault, NONE);
        States.changesNothing(States.FULL, "fault()", Both::fault, 4);
        States.changesNothing(States.WITHOUT_BLOCKS.then("wiped", Both::wipe), "wipe()", Both::wipe, 0);
    }

    public static void main(String[] args) {
        noBlocksAtFirst();
        nothingAtFirst();
        the512thCall();
        letters();
        lengths();
        badAheadOfFull();
        faultOfNothing();
        faultBehindWiping();
        faultAtG();
        faultAtN();
        faultAtTheFirstAct();
        faultBehindAnAct();
        arcsOfABlock();
        figuresLessThanN();
        asManyBlocksAsTold();
        theLongestGraph();
        theFirstOfSeveral();
        graphOfEachSize();
        graphWithAFault();
        graphOfFewerBlocks();
        whatGraphLeaves();
        whatLettersLeave();
        Check.end();
    }
}
