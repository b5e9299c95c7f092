import java.util.EnumMap;
import java.util.Map;
import java.util.function.Supplier;
import java.util.function.ToLongFunction;

/** States from which calls are tried: nothing, few, many, and all of everything. */
final class States {
    static final State WITHOUT_BLOCKS = new State("without blocks", States::withoutBlocks);
    static final State FRESH = new State("fresh", States::fresh);
    static final State USED = new State("used", States::used);
    static final State FULL = new State("full", States::full);

    private States() {
    }

    /** How an object gets into a state; what it holds then is told once alone. */
    record State(String name, Supplier<Both> made, Map<Aspect, String> held) {
        State(String name, Supplier<Both> made) {
            this(name, made, new EnumMap<>(Aspect.class));
        }

        String aspect(Aspect aspect) {
            return held.computeIfAbsent(aspect, a -> a.of(made));
        }

        /** The state behind a call more. */
        State then(String call, ToLongFunction<Both> asked) {
            return new State(name + ", " + call, () -> {
                Both x = made.get();
                asked.applyAsLong(x);
                return x;
            });
        }
    }

    /** No block; letters that are no graph; something seen; a seed. */
    private static Both withoutBlocks() {
        Both x = new Both();
        Check.write(x, "G2a");
        x.see(1, 'a', 1);
        x.seed(5);
        return x;
    }

    /** Tame, and nothing done, kept or seen. */
    private static Both fresh() {
        return Check.of("G4a1b02cd33");
    }

    /** Three doings, both slots filled, two things seen; block 0 has three arcs, block 3 has none. */
    private static Both used() {
        Both x = Check.of("G4a12b2c1d");
        x.keep(1);
        x.add(0, 3);
        x.add(2, 2);
        x.keep(0);
        x.split(1, 2);
        x.see(2, 'c', 1);
        x.see(4, 'a', 0);
        x.seed(-77);
        x.wipe();
        Check.write(x, "G2z1y0");
        return x;
    }

    /** Twelve blocks, 36 arcs, 64 letters, 14 doings, 6 things seen; slot 1 filled and slot 0 not. */
    private static Both full() {
        Both x = Check.pictured("a1,2,3 b2,1,1 c1,4,5 d6,7,8 e9,10,11 f0,0,0 g6,6,1 h7,3,2 a8,8,8 a9,1,0 b10,2,1 c11,10,10");
        for (int i = 0; i < 7; i++) {
            x.cut(11, 2);
            x.add(11, i);
        }
        for (int k = 0; k < 6; k++) {
            x.see(k % 5, 'a' + k % 3, k % 2);
        }
        x.seed(Long.MIN_VALUE);
        x.wipe();
        Check.write(x, "G1a0");
        for (int i = 4; i < 64; i++) {
            x.write(i * 4 % 256);
        }
        return x;
    }

    /** The call answers so, and the aspects that are told are behind it as they were ahead of it. */
    static void leaves(State state, String call, ToLongFunction<Both> asked, long want, Aspect... aspects) {
        State behind = state.then(call, asked);
        Check.due(behind.name(), asked.applyAsLong(state.made().get()), want);
        for (Aspect aspect : aspects) {
            Check.same(behind.name() + " leaves", behind.aspect(aspect), state.aspect(aspect));
        }
    }

    static void changesNothing(State state, String call, ToLongFunction<Both> asked, long want) {
        leaves(state, call, asked, want, Aspect.values());
    }
}
