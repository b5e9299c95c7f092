import java.util.function.Supplier;

/** What an object holds, each told by calls of its own on new objects that were made the same way. */
enum Aspect {
    TEXT, GRAPH, DOINGS, SLOTS, SEEN, SEED;

    /** By this graph each of the 81 rows shows other acts. */
    private static final String TELLING = "G3a012b012c012";

    String of(Supplier<Both> made) {
        return switch (this) {
            case TEXT -> text(made);
            case GRAPH -> graph(made.get()) + loops(made.get());
            case DOINGS -> doings(made);
            case SLOTS -> slot(made.get(), 0) + slot(made.get(), 1);
            case SEEN -> seen(made.get());
            case SEED -> "seed " + made.get().seed(1);
        };
    }

    private static String text(Supplier<Both> made) {
        Both y = made.get();
        return read(made.get()) + " with a b more " + y.write('b') + " " + read(y) + " wiped " + y.wipe();
    }

    private static String read(Both x) {
        String told = "text " + x.about(10) + " fault " + x.fault();
        int blocks = x.graph();
        return told + " graph " + blocks + (blocks < 0 ? "" : " " + Check.picture(x));
    }

    private static String graph(Both x) {
        return "graph " + Check.picture(x);
    }

    private static String loops(Both x) {
        StringBuilder all = new StringBuilder(" loops");
        for (int what = 0; what <= 7; what++) {
            all.append(' ').append(x.about(what));
        }
        int blocks = x.about(0);
        for (int b = 0; b < blocks; b++) {
            for (int what = 2; what <= 5; what++) {
                all.append(' ').append(x.block(b, what));
            }
            for (int what = 0; what <= 3; what++) {
                all.append(' ').append(x.sets(b, what));
            }
        }
        return all.toString();
    }

    private static String doings(Supplier<Both> made) {
        StringBuilder all = new StringBuilder("doings " + made.get().about(8));
        for (int times = 1; times <= 16; times++) {
            Both x = made.get();
            int left = 0;
            for (int i = 0; i < times; i++) {
                left = x.undo();
            }
            all.append(" undone ").append(left);
            if (left >= 0) {
                all.append(' ').append(Check.picture(x));
            }
        }
        return all.toString();
    }

    private static String slot(Both x, int slot) {
        int arcs = x.again(slot);
        return "slot " + slot + " " + arcs + (arcs < 0 ? "" : " " + Check.picture(x)) + " ";
    }

    private static String seen(Both x) {
        String told = "seen " + x.about(9);
        x.wipe();
        Check.write(x, TELLING);
        x.graph();
        return told + " rows " + x.rows(0) + " " + x.rows(1) + " unseen " + x.unsee();
    }
}
