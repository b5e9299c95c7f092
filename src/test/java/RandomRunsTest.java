import java.util.Random;

/** Runs of calls by chance on the class and on the model: all answers must be the same. */
final class RandomRunsTest {
    private static final int RUNS = 3000;
    /** Of the 512 calls that are promised, as many stay free as one step can take. */
    private static final int CALLS = 512 - 80;

    private final NestFinder x = new NestFinder();
    private final Model m = new Model();
    private final Random chance;
    private final int run;
    private int calls = 0;

    private RandomRunsTest(int run) {
        this.run = run;
        this.chance = new Random(run);
    }

    private void due(String call, long got, long want) {
        calls++;
        Check.due("run " + run + ": " + call, got, want);
    }

    private int upTo(int most) {
        return chance.nextInt(most + 1);
    }

    /** A number from 0 on, and now and then one that is out of bounds. */
    private int near(int most) {
        if (chance.nextInt(12) != 0) {
            return upTo(most);
        }
        int[] odd = {-1, most + 1, most + 2, -9, Integer.MIN_VALUE, Integer.MAX_VALUE, 31, 32, 33};
        return odd[chance.nextInt(odd.length)];
    }

    private int aBlock() {
        int size = m.about(0);
        return near(size == 0 ? 0 : size - 1);
    }

    private void tell(int letter) {
        due("write(" + letter + ")", x.write(letter), m.write(letter));
    }

    private void tellGraph() {
        due("wipe()", x.wipe(), m.wipe());
        int n = 1 + upTo(7);
        tell('G');
        tell('0' + n);
        int most = 1 + upTo(2);
        for (int b = 0; b < n; b++) {
            tell('a' + upTo(chance.nextBoolean() ? 3 : 25));
            int arcs = b + 1 < n && chance.nextInt(4) != 0 ? 1 + upTo(most - 1) : upTo(most);
            for (int i = 0; i < arcs; i++) {
                tell('0' + upTo(n - 1));
            }
            if (chance.nextInt(60) == 0) {
                tell(near(255));
            }
        }
        due("fault()", x.fault(), m.fault());
        due("graph()", x.graph(), m.graph());
    }

    private void tellNoise() {
        if (chance.nextInt(3) == 0) {
            due("wipe()", x.wipe(), m.wipe());
        }
        String signs = "GGG123489abz`{/:0123";
        for (int i = upTo(12); i >= 0; i--) {
            int letter = chance.nextInt(15) == 0 ? near(255) : signs.charAt(upTo(signs.length() - 1));
            tell(letter);
            due("fault()", x.fault(), m.fault());
        }
    }

    private void ask() {
        for (int i = 0; i < 4; i++) {
            int b = aBlock();
            int what = near(5);
            int k = near(3);
            int all = near(10);
            int mended = near(2);
            due("about(" + all + ")", x.about(all), m.about(all));
            due("block(" + b + ", " + what + ")", x.block(b, what), m.block(b, what));
            due("arc(" + b + ", " + k + ")", x.arc(b, k), m.arc(b, k));
            due("sets(" + b + ", " + k + ")", x.sets(b, k), m.sets(b, k));
            due("would(" + mended + ")", x.would(mended), m.would(mended));
        }
    }

    private void doing() {
        int a = aBlock();
        int b = aBlock();
        int i = near(2);
        switch (chance.nextInt(9)) {
            case 0, 1, 2 -> due("add(" + a + ", " + b + ")", x.add(a, b), m.add(a, b));
            case 3, 4 -> due("cut(" + a + ", " + i + ")", x.cut(a, i), m.cut(a, i));
            case 5 -> {
                int to = m.arc(a, i);
                due("split(" + a + ", " + to + ")", x.split(a, to), m.split(a, to));
            }
            case 6 -> due("split(" + a + ", " + b + ")", x.split(a, b), m.split(a, b));
            case 7 -> {
                if (chance.nextInt(3) == 0) {
                    due("mend()", x.mend(), m.mend());
                }
            }
            default -> due("undo()", x.undo(), m.undo());
        }
    }

    private void runs() {
        int n = near(8);
        int row = 0;
        for (int i = 0; i < Math.min(8, Math.max(0, n)); i++) {
            row = row * 10 + upTo(2);
        }
        row = switch (chance.nextInt(12)) {
            case 0 -> row + 1;
            case 1 -> row * 10;
            case 2 -> -row;
            case 3 -> near(Integer.MAX_VALUE - 9);
            default -> row;
        };
        int what = near(1);
        due("run(" + n + ", " + row + ", " + what + ")", x.run(n, row, what), m.run(n, row, what));
    }

    /** A saying that holds, told of the graph as it is; by it the rows come further than by chance. */
    private int trueSaying() {
        int b = upTo(Math.max(0, Math.min(9, m.about(0) - 1)));
        int header = m.block(b, 3);
        return switch (chance.nextInt(4)) {
            case 0 -> 500 + b * 10 + Math.max(0, m.block(b, 4));
            case 1 -> 600 + b * 10 + Math.max(0, m.block(b, 5));
            case 2 -> header >= 0 && header <= 9 ? 700 + header * 10 + b : 800 + b;
            default -> m.about(6) == 1 ? 400 : 800 + b * 11;
        };
    }

    private void judges() {
        int n = near(4);
        long row = 0;
        for (int i = 0; i < Math.min(4, Math.max(0, n)); i++) {
            int figures = chance.nextInt(3) == 0 ? trueSaying()
                : upTo(9) * 100 + Math.min(9, Math.max(0, aBlock())) * 10 + upTo(9) / (1 + upTo(3));
            row = row * 1000 + figures;
        }
        row = switch (chance.nextInt(15)) {
            case 0 -> row * 10;
            case 1 -> -row;
            case 2 -> chance.nextLong();
            default -> row;
        };
        due("judge(" + n + ", " + row + ")", x.judge(n, row), m.judge(n, row));
    }

    private void chances() {
        int a = aBlock();
        int i = near(2);
        int tenths = near(10);
        int draws = near(20);
        boolean upper = chance.nextBoolean();
        switch (chance.nextInt(5)) {
            case 0, 1 -> due("share(" + a + ", " + i + ", " + upper + ")", x.share(a, i, upper), m.share(a, i, upper));
            case 2 -> due("torn(" + a + ", " + tenths + ", " + upper + ")", x.torn(a, tenths, upper), m.torn(a, tenths, upper));
            case 3 -> due("drawn(" + draws + ")", x.drawn(draws), m.drawn(draws));
            default -> {
                long v = chance.nextLong();
                due("seed(" + v + ")", x.seed(v), m.seed(v));
            }
        }
    }

    private void sees() {
        int k = near(4);
        int letter = chance.nextInt(10) == 0 ? near('z') : 'a' + upTo(3);
        int was = chance.nextInt(3) == 0 ? near(1) : 0;
        int what = near(1);
        switch (chance.nextInt(5)) {
            case 0, 1 -> due("see(" + k + ", " + letter + ", " + was + ")", x.see(k, letter, was), m.see(k, letter, was));
            case 2, 3 -> due("rows(" + what + ")", x.rows(what), m.rows(what));
            default -> {
                if (chance.nextInt(3) == 0) {
                    due("unsee()", x.unsee(), m.unsee());
                }
            }
        }
    }

    private void slots() {
        int slot = near(1);
        if (chance.nextBoolean()) {
            due("keep(" + slot + ")", x.keep(slot), m.keep(slot));
        } else {
            due("again(" + slot + ")", x.again(slot), m.again(slot));
        }
    }

    private void go() {
        if (run % 10 != 0) {
            tellGraph();
        }
        for (int step = 0; step < CALLS && calls < CALLS; step++) {
            switch (chance.nextInt(24)) {
                case 0, 14, 15 -> ask();
                case 1, 2, 3 -> runs();
                case 4, 5, 6 -> judges();
                case 7, 8, 9 -> chances();
                case 10, 11 -> sees();
                case 12 -> slots();
                case 13 -> {
                    if (chance.nextInt(6) == 0) {
                        tellGraph();
                    } else if (chance.nextInt(6) == 0) {
                        tellNoise();
                    }
                }
                default -> doing();
            }
        }
    }

    public static void main(String[] args) {
        for (int run = 0; run < RUNS; run++) {
            new RandomRunsTest(run).go();
        }
        Check.end();
    }
}
