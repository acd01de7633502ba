import java.util.ArrayList;
import java.util.List;
import java.util.function.Supplier;

/** Tries calls at the edges of what the document allows, each on a fresh desk in a given state. */
final class Edge {
    private static final int VIEWS = 4;

    interface Call {
        long on(DiagramDesk desk);
    }

    interface CallWith {
        long on(DiagramDesk desk, int argument);
    }

    private Edge() {
    }

    /** The call answers so and changes nothing: neither the diagram nor the settings, history or buffer. */
    static void still(String name, Supplier<DiagramDesk> state, Call call, long want) {
        for (int view = 0; view < VIEWS; view++) {
            DiagramDesk desk = state.get();
            Due.due(name, call.on(desk), want);
            Due.due(name + ": leaves all as it was, view " + view,
                    seen(desk, view).equals(seen(state.get(), view)) ? 1 : 0, 1);
        }
    }

    /** The call answers so and is one act: an undo leads back to the state before it, and to those before. */
    static void act(String name, Supplier<DiagramDesk> state, Call call, long want) {
        DiagramDesk desk = state.get();
        Due.due(name, call.on(desk), want);
        List<Long> before = states(state.get());
        List<Long> after = states(desk);
        int kept = Math.min(6, before.size() / 2);
        Due.due(name + ": states in the history", after.size() / 2 - 1, kept);
        // The newest one is the state after the call, which no earlier state needs to be like.
        Due.due(name + ": they are the states before it",
                after.subList(2, after.size()).equals(before.subList(0, 2 * kept)) ? 1 : 0, 1);
        DiagramDesk undone = state.get();
        call.on(undone);
        undone.undo();
        Due.due(name + ": undo restores the settings", seen(undone, 1).equals(seen(state.get(), 1)) ? 1 : 0, 1);
    }

    /** Both ends of the range are taken; what lies beyond them is refused and changes nothing. */
    static void range(String name, Supplier<DiagramDesk> state, CallWith call, int least, int most, long error) {
        for (int value : new int[] {least, most}) {
            Due.due(name + " " + value + " is refused", call.on(state.get(), value) == error ? 1 : 0, 0);
        }
        none(name, state, call, error, least - 1, most + 1, Integer.MIN_VALUE, Integer.MAX_VALUE);
    }

    /** Each of the values is refused and changes nothing. */
    static void none(String name, Supplier<DiagramDesk> state, CallWith call, long error, int... values) {
        for (int value : values) {
            still(name + " " + value, state, desk -> call.on(desk, value), error);
        }
    }

    /** "There is no such shape": before the first, a removed one, behind the last, no number of a shape at all. */
    static void noShape(String name, CallWith call, long error) {
        none(name, States::busy, call, error, -1, 2, 8, 19, 20, 31, 32, 64, DiagramDesk.NONE, Integer.MIN_VALUE,
                Integer.MAX_VALUE);
        none(name + " of 20", States::full, call, error, -1, 20);
        none(name + " of none", DiagramDesk::new, call, error, 0);
    }

    /** "There is no such connector": before the first, behind the last, no number of a connector at all. */
    static void noConnector(String name, CallWith call, long error) {
        none(name, States::busy, call, error, -1, 4, 19, 20, 32, DiagramDesk.NONE, Integer.MIN_VALUE,
                Integer.MAX_VALUE);
        none(name + " of 20", States::full, call, error, -1, 20);
        none(name + " of none", DiagramDesk::new, call, error, 0);
    }

    /** "There is no such group": before the first, an ended one, behind the last, no number of a group at all. */
    static void noGroup(String name, CallWith call, long error) {
        none(name, States::busy, call, error, -1, 2, 4, 7, 8, 32, DiagramDesk.NONE, Integer.MIN_VALUE,
                Integer.MAX_VALUE);
        none(name + " of 8", States::full, call, error, -1, 8);
        none(name + " of none", DiagramDesk::new, call, error, 0);
    }

    /** What can be seen of a desk; each view spoils the desk for the others. */
    private static List<Long> seen(DiagramDesk desk, int view) {
        switch (view) {
            case 0: return states(desk);
            case 1: return settings(desk);
            case 2: return oldestSettings(desk);
            default: return buffer(desk);
        }
    }

    /** Fingerprint and selection of the present state, then of those in the history, the latest first. */
    private static List<Long> states(DiagramDesk desk) {
        List<Long> seen = new ArrayList<>();
        do {
            seen.add(desk.fingerprint());
            seen.add((long) desk.selected());
        } while (desk.undo() != DiagramDesk.NONE);
        return seen;
    }

    private static List<Long> settings(DiagramDesk desk) {
        List<Long> seen = new ArrayList<>();
        for (int k = 0; k < 20; k++) {
            seen.add((long) desk.select(k, true));
        }
        // Guides, grid and tolerance show in where the whole would be caught.
        for (int way = -40; way <= 40; way++) {
            seen.add((long) desk.correction(way, way, 0));
            seen.add((long) desk.correction(way, way, 1));
        }
        seen.add((long) desk.clearGuides());
        seen.add((long) desk.setGrid(0));
        seen.add((long) desk.setTolerance(0));
        // The number tells how many were added in all.
        seen.add((long) desk.addShape(0, 0, 0, 1, 1));
        return seen;
    }

    private static List<Long> oldestSettings(DiagramDesk desk) {
        for (int k = 0; k < 6; k++) {
            desk.undo();
        }
        return settings(desk);
    }

    private static List<Long> buffer(DiagramDesk desk) {
        List<Long> seen = new ArrayList<>();
        seen.add((long) desk.read());
        seen.add(desk.fingerprint());
        seen.add((long) desk.clear());
        return seen;
    }
}
