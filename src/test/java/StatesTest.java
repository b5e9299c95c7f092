import java.util.EnumMap;
import java.util.Map;
import java.util.function.ToLongFunction;

/** That the states are what they are told to be, and that what they are compared by tells them apart. */
final class StatesTest {
    private static void aboutIs(States.State state, int... want) {
        Both x = state.made().get();
        for (int what = 0; what < want.length; what++) {
            Check.due(state.name() + ": about(" + what + ")", x.about(what), want[what]);
        }
    }

    private static void states() {
        aboutIs(States.WITHOUT_BLOCKS, 0, 0, 0, 0, 0, 0, 1, 0, 0, 1, 3);
        aboutIs(States.FRESH, 4, 5, 3, 1, 0, 1, 1, 1, 0, 0, 11);
        aboutIs(States.USED, 5, 8, 5, 2, 1, 2, 0, 3, 3, 2, 6);
        aboutIs(States.FULL, 12, 36, 12, 10, 1, 4, 0, 21, 14, 6, 64);
    }

    private static int tellAnother(Both x) {
        x.wipe();
        Check.write(x, "G2z1y1");
        return 0;
    }

    private static int seeAnother(Both x) {
        x.unsee();
        x.see(2, 'c', 1);
        return x.see(4, 'b', 0);
    }

    private static void aspectsTellApart() {
        Map<Aspect, ToLongFunction<Both>> changes = new EnumMap<>(Aspect.class);
        changes.put(Aspect.TEXT, StatesTest::tellAnother);
        changes.put(Aspect.GRAPH, x -> x.add(3, 3));
        changes.put(Aspect.DOINGS, x -> x.add(3, 3));
        changes.put(Aspect.SLOTS, x -> x.keep(1));
        changes.put(Aspect.SEEN, StatesTest::seeAnother);
        changes.put(Aspect.SEED, x -> x.drawn(1));
        for (Aspect aspect : Aspect.values()) {
            States.State changed = States.USED.then("changed", changes.get(aspect));
            boolean same = changed.aspect(aspect).equals(States.USED.aspect(aspect));
            Check.due(aspect + " tells apart", same ? 0 : 1, 1);
        }
    }

    public static void main(String[] args) {
        states();
        aspectsTellApart();
        Check.end();
    }
}
