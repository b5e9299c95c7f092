/**
 * The class and the model, asked together: each answer of the one must be that of the other.
 * An object of the class is promised for 512 calls alone: a test that makes more is wrong itself.
 */
final class Both {
    private static final int MOST_CALLS = 512;

    private final NestFinder x = new NestFinder();
    private final Model m = new Model();
    private int calls = 0;

    private long same(String call, long got, long want) {
        calls++;
        Check.due(call + " by the model", got, want);
        if (calls > MOST_CALLS) {
            throw new IllegalStateException("the test makes more than 512 calls: " + call);
        }
        return got;
    }

    private int same(String call, int got, int want) {
        return (int) same(call, (long) got, (long) want);
    }

    private static String told(String name, Object... arguments) {
        StringBuilder s = new StringBuilder(name).append('(');
        for (int i = 0; i < arguments.length; i++) {
            s.append(i > 0 ? ", " : "").append(arguments[i]);
        }
        return s.append(')').toString();
    }

    int write(int letter) {
        return same(told("write", letter), x.write(letter), m.write(letter));
    }

    int wipe() {
        return same("wipe()", x.wipe(), m.wipe());
    }

    int fault() {
        return same("fault()", x.fault(), m.fault());
    }

    int graph() {
        return same("graph()", x.graph(), m.graph());
    }

    int about(int what) {
        return same(told("about", what), x.about(what), m.about(what));
    }

    int block(int block, int what) {
        return same(told("block", block, what), x.block(block, what), m.block(block, what));
    }

    int arc(int block, int i) {
        return same(told("arc", block, i), x.arc(block, i), m.arc(block, i));
    }

    int sets(int block, int what) {
        return same(told("sets", block, what), x.sets(block, what), m.sets(block, what));
    }

    int add(int block, int to) {
        return same(told("add", block, to), x.add(block, to), m.add(block, to));
    }

    int cut(int block, int i) {
        return same(told("cut", block, i), x.cut(block, i), m.cut(block, i));
    }

    int split(int p, int to) {
        return same(told("split", p, to), x.split(p, to), m.split(p, to));
    }

    int mend() {
        return same("mend()", x.mend(), m.mend());
    }

    int undo() {
        return same("undo()", x.undo(), m.undo());
    }

    int run(int n, int row, int what) {
        return same(told("run", n, row, what), x.run(n, row, what), m.run(n, row, what));
    }

    int would(int what) {
        return same(told("would", what), x.would(what), m.would(what));
    }

    int judge(int n, long row) {
        return same(told("judge", n, row), x.judge(n, row), m.judge(n, row));
    }

    int share(int block, int i, boolean upper) {
        return same(told("share", block, i, upper), x.share(block, i, upper), m.share(block, i, upper));
    }

    int see(int k, int letter, int was) {
        return same(told("see", k, letter, was), x.see(k, letter, was), m.see(k, letter, was));
    }

    int unsee() {
        return same("unsee()", x.unsee(), m.unsee());
    }

    int rows(int what) {
        return same(told("rows", what), x.rows(what), m.rows(what));
    }

    int torn(int block, int tenths, boolean upper) {
        return same(told("torn", block, tenths, upper), x.torn(block, tenths, upper), m.torn(block, tenths, upper));
    }

    long seed(long v) {
        return same(told("seed", v), x.seed(v), m.seed(v));
    }

    int drawn(int times) {
        return same(told("drawn", times), x.drawn(times), m.drawn(times));
    }

    int keep(int slot) {
        return same(told("keep", slot), x.keep(slot), m.keep(slot));
    }

    int again(int slot) {
        return same(told("again", slot), x.again(slot), m.again(slot));
    }
}
