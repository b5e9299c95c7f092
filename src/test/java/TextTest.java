/** Promises 1 to 5: a new object, write, wipe, fault, graph. */
final class TextTest {
    private static void newObject() {
        Both x = new Both();
        for (int what = 0; what <= 10; what++) {
            Check.due("new: about(" + what + ")", x.about(what), what == 6 ? 1 : 0);
        }
        Check.due("new: block(0, 0)", x.block(0, 0), NestFinder.UNKNOWN);
        Check.due("new: undo()", x.undo(), NestFinder.LATE);
        Check.due("new: again(0)", x.again(0), NestFinder.LATE);
        Check.due("new: again(1)", x.again(1), NestFinder.LATE);
        Check.due("new: unsee()", x.unsee(), 0);
        Check.due("new: seed(0)", x.seed(0), 0);
        Check.due("UNKNOWN", NestFinder.UNKNOWN, -1);
        Check.due("BAD", NestFinder.BAD, -2);
        Check.due("LATE", NestFinder.LATE, -3);
        Check.due("FULL", NestFinder.FULL, -4);
        Check.due("NONE", NestFinder.NONE, -9);
    }

    private static void objectsAreApart() {
        Both one = Check.of("G1a0");
        Both other = new Both();
        one.seed(7);
        one.see(0, 'a', 1);
        Check.due("another: about(0)", other.about(0), 0);
        Check.due("another: about(9)", other.about(9), 0);
        Check.due("another: about(10)", other.about(10), 0);
        Check.due("another: seed(0)", other.seed(0), 0);
    }

    private static void writeLetters() {
        Both x = new Both();
        int[] odd = {-1, 256, Integer.MIN_VALUE, Integer.MAX_VALUE};
        for (int letter : odd) {
            Check.due("write(" + letter + ")", x.write(letter), NestFinder.BAD);
        }
        Check.due("about(10) behind refusals", x.about(10), 0);
        for (int i = 1; i <= 64; i++) {
            int letter = i % 2 == 0 ? 255 : 0;
            Check.due("write(" + letter + ")", x.write(letter), i);
        }
        Check.due("the 65th write(71)", x.write(71), NestFinder.FULL);
        Check.due("the 65th write(256)", x.write(256), NestFinder.BAD);
        Check.due("about(10)", x.about(10), 64);
    }

    private static void wipeLetters() {
        Both x = Check.of("G2a1b");
        Check.due("wipe()", x.wipe(), 5);
        Check.due("wipe() again", x.wipe(), 0);
        Check.due("about(10)", x.about(10), 0);
        Check.due("about(0): the graph stays", x.about(0), 2);
        Check.due("write('G') behind wipe", x.write('G'), 1);
        Check.due("fault() behind wipe", x.fault(), 1);
    }

    private static void faultOf(String text, int want) {
        Both x = new Both();
        Check.write(x, text);
        Check.due("fault() of " + text, x.fault(), want);
        Check.due("fault() of " + text + " once more", x.fault(), want);
        Check.due("about(0): a fault makes no graph", x.about(0), 0);
        Check.due("about(10)", x.about(10), text.length());
        int blocks = want == NestFinder.NONE ? text.charAt(1) - '0' : NestFinder.LATE;
        Check.due("graph() of " + text, x.graph(), blocks);
    }

    private static void faults() {
        int none = NestFinder.NONE;
        String[] texts = {"", "g", "F1a", "G", "G0", "G9", "G/", "Ga", "G1", "G8", "G1a", "G1A", "G1`", "G1{",
            "G1z", "G1a1", "G1a000", "G1a0000", "G1a00001", "G1ab", "G10", "G2a", "G2a1b", "G2a2", "G2a/", "G2a1bc",
            "G8a7", "G8a8", "G2aXb", "G2a1b0101", "G1a0 ", " G1a", "G1aG1a", "G3abc", "G3ab", "G3a012b012c012",
            "G8a777b777c777d777e777f777g777h777", "G8a777b777c777d777e777f777g777h7777",
            "G1a" + (char) 0, "G1" + (char) 255, "" + (char) 0};
        int[] want = {0, 0, 0, 1, 1, 1, 1, 1, 2, 2, none, 2, 2, 2,
            none, 3, none, 6, 6, 3, 2, 3, none, 3, 3, 5,
            4, 3, 3, 8, 4, 0, 3, none, 4, none,
            none, 34,
            3, 2, 0};
        for (int i = 0; i < texts.length; i++) {
            faultOf(texts[i], want[i]);
        }
    }

    private static void faultOfFullText() {
        Both x = new Both();
        Check.write(x, "G8");
        for (int i = 0; i < 62; i++) {
            x.write(i % 4 == 0 ? 'a' : '7');
        }
        Check.due("about(10)", x.about(10), 64);
        Check.due("fault() of a ninth block", x.fault(), 34);
    }

    private static void graphIsRead() {
        Both x = Check.of("G3a012bc2");
        Check.same("picture", Check.picture(x), "a0,1,2 b c2");
        Check.due("about(10): the text stays", x.about(10), 9);
        x.write('!');
        Check.due("graph() with a fault", x.graph(), NestFinder.LATE);
        Check.same("picture behind a refusal", Check.picture(x), "a0,1,2 b c2");
        x.wipe();
        Check.due("graph() of nothing", x.graph(), NestFinder.LATE);
        Check.same("picture behind a refusal", Check.picture(x), "a0,1,2 b c2");
    }

    private static void whatGraphLeaves() {
        Both x = Check.of("G2a1b0");
        x.add(0, 0);
        x.keep(0);
        x.keep(1);
        x.see(1, 'b', 1);
        x.seed(77);
        x.wipe();
        Check.write(x, "G2a");
        Check.due("graph() with a fault", x.graph(), NestFinder.LATE);
        Check.due("about(8) behind a refusal", x.about(8), 1);
        Check.due("again(1) behind a refusal", x.again(1), 3);
        x.add(1, 1);
        x.write('b');
        Check.due("graph()", x.graph(), 2);
        Check.same("picture", Check.picture(x), "a b");
        Check.due("about(8)", x.about(8), 0);
        Check.due("undo()", x.undo(), NestFinder.LATE);
        Check.due("again(0)", x.again(0), NestFinder.LATE);
        Check.due("again(1)", x.again(1), NestFinder.LATE);
        Check.due("about(9)", x.about(9), 1);
        Check.due("seed(1)", x.seed(1), 77);
    }

    public static void main(String[] args) {
        newObject();
        objectsAreApart();
        writeLetters();
        wipeLetters();
        faults();
        faultOfFullText();
        graphIsRead();
        whatGraphLeaves();
        Check.end();
    }
}
