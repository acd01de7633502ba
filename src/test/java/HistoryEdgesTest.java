import java.util.function.Supplier;

/** Each sentence on the history and the fingerprint (promises 32 and 33) that names a boundary case, with a test. */
public final class HistoryEdgesTest {
    private static final int NONE = DiagramDesk.NONE;
    private static final int CALLS = 512;

    public static void main(String[] args) {
        noStates();
        sixStates();
        oldestIsDropped();
        undoneActsAreGone();
        undoIsNoAct();
        actsThatLeaveAll();
        allThatIsKept();
        depthIsKept();
        groupsAreKept();
        numbersAreKept();
        bufferIsNotKept();
        looksAreNoActs();
        emptyFingerprint();
        fingerprintOfNumbers();
        fingerprintOverflows();
        fingerprintSkipsRemoved();
        lastCall();
        Due.finish();
    }

    private static DiagramDesk acts(int count) {
        DiagramDesk desk = new DiagramDesk();
        for (int k = 1; k <= count; k++) {
            Due.due("setGrid", desk.setGrid(k), k - 1);
        }
        return desk;
    }

    // undo: "NONE if it has none", also after refused calls and after the last state was taken
    private static void noStates() {
        Edge.still("undo on an empty desk", DiagramDesk::new, desk -> desk.undo(), NONE);
        DiagramDesk desk = acts(1);
        Due.due("undo", desk.undo(), 0);
        Due.due("undo: none", desk.undo(), NONE);
        Due.due("undo: still none", desk.undo(), NONE);
        Due.due("the grid", desk.setGrid(50), 0);
        DiagramDesk refused = new DiagramDesk();
        refused.setGrid(101);
        refused.removeShape(0);
        refused.addShape(0, 0, 0, 0, 0);
        Due.due("refused calls are no acts", refused.undo(), NONE);
    }

    // "A history of at most 6 states is kept": "Returns how many states the history still has"
    private static void sixStates() {
        for (int count = 1; count <= 10; count++) {
            DiagramDesk desk = acts(count);
            int kept = Math.min(count, 6);
            for (int left = kept - 1; left >= 0; left--) {
                Due.due("undo after " + count + " acts", desk.undo(), left);
            }
            Due.due("undo after " + count + " acts: no more", desk.undo(), NONE);
            Due.due("the oldest state after " + count + " acts", desk.setGrid(0), count - kept);
        }
    }

    // "if there are 6 already, the oldest one is dropped"
    private static void oldestIsDropped() {
        Edge.act("the sixth act", () -> acts(5), desk -> desk.setGrid(6), 5);
        Edge.act("the seventh act", () -> acts(6), desk -> desk.setGrid(7), 6);
        Edge.act("the hundredth act", () -> acts(99), desk -> desk.setGrid(100), 99);
    }

    // "undo() removes the latest one and restores it": there is no way forward
    private static void undoneActsAreGone() {
        DiagramDesk desk = acts(6);
        Due.due("undo", desk.undo(), 5);
        Due.due("undo", desk.undo(), 4);
        Due.due("another act", desk.setGrid(50), 4);
        Due.due("undo", desk.undo(), 4);
        Due.due("the state before it", desk.setGrid(60), 4);
        Due.due("undo", desk.undo(), 4);
        Due.due("undo", desk.undo(), 3);
        Due.due("the state before that", desk.setGrid(70), 3);
    }

    // undo is not described as an act.
    private static void undoIsNoAct() {
        DiagramDesk desk = acts(3);
        for (int left = 2; left >= 0; left--) {
            Due.due("undo", desk.undo(), left);
        }
        Due.due("undo of an undo there is none", desk.undo(), NONE);
        Due.due("the grid", desk.setGrid(0), 0);
    }

    private static DiagramDesk arranged() {
        return States.chosen(new int[] {0, 0}, new int[] {20, 0}, new int[] {40, 0});
    }

    // "adds the state before it, also if it leaves all as it was"
    private static void actsThatLeaveAll() {
        Supplier<DiagramDesk> state = HistoryEdgesTest::arranged;
        long before = state.get().fingerprint();
        Edge.Call[] calls = {desk -> desk.resize(0, 10, 10), desk -> desk.bring(2, true), desk -> desk.bring(0, false),
            desk -> desk.select(0, true), desk -> desk.move(0, 0), desk -> desk.drag(0, 0), desk -> desk.align(3),
            desk -> desk.align(4), desk -> desk.align(5), desk -> desk.distribute(0), desk -> desk.clearGuides(),
            desk -> desk.setGrid(0), desk -> desk.setTolerance(5)};
        int[] want = {0, 0, 2, 3, 0, 44, 0, 0, 0, 20, 0, 0, 5};
        for (int k = 0; k < calls.length; k++) {
            Edge.act("an act that leaves all, " + k, state, calls[k], want[k]);
            DiagramDesk desk = state.get();
            calls[k].on(desk);
            Due.due("all is left, " + k, desk.fingerprint(), before);
        }
        Edge.act("select off one that is not selected", () -> Due.deskWith(1), desk -> desk.select(0, false), 0);
    }

    // "(shapes, connectors, groups, selection, guides, grid step, tolerance, the order in depth)", by each act
    private static void allThatIsKept() {
        Edge.act("addShape", States::busy, desk -> desk.addShape(1, 1, 2, 3, 4), 8);
        Edge.act("removeShape", States::busy, desk -> desk.removeShape(4), 1);
        Edge.act("resize", States::busy, desk -> desk.resize(4, 7, 7), 1);
        Edge.act("bring", States::busy, desk -> desk.bring(4, true), 3);
        Edge.act("connect", States::busy, desk -> desk.connect(6, 1, 4, 2, 2), 4);
        Edge.act("disconnect", States::busy, desk -> desk.disconnect(1), 3);
        Edge.act("select", States::busy, desk -> desk.select(7, true), 7);
        Edge.act("group", States::busy, desk -> desk.group(), 2);
        Edge.act("ungroup", States::busy, desk -> desk.ungroup(0), 2);
        Edge.act("move", States::busy, desk -> desk.move(3, -4), 1);
        Edge.act("drag", States::busy, desk -> desk.drag(0, 0), 33);
        Edge.act("align", States::busy, desk -> desk.align(2), 2);
        Edge.act("distribute", States::busy, desk -> desk.distribute(0), 121);
        Edge.act("addGuide", States::busy, desk -> desk.addGuide(1, 5), 4);
        Edge.act("clearGuides", States::busy, desk -> desk.clearGuides(), 3);
        Edge.act("setGrid", States::busy, desk -> desk.setGrid(11), 7);
        Edge.act("setTolerance", States::busy, desk -> desk.setTolerance(11), 9);
        Edge.act("removeShape of 20", States::full, desk -> desk.removeShape(7), 2);
        Edge.act("disconnect one of 20", States::full, desk -> desk.disconnect(0), 19);
        Edge.act("ungroup one of 8", States::full, desk -> desk.ungroup(0), 2);
        Edge.act("clearGuides of 10", States::full, desk -> desk.clearGuides(), 10);
    }

    private static void depthIsKept() {
        DiagramDesk desk = Due.deskWith(20);
        desk.bring(10, true);
        desk.removeShape(5);
        desk.bring(19, false);
        desk.addGuide(0, 0);
        for (int left = 5; left >= 2; left--) {
            Due.due("undo", desk.undo(), left);
        }
        for (int k = 0; k < 20; k++) {
            Due.due("depth of " + k, desk.shape(k, 6), 19 - k);
        }
    }

    // A group that ended without shapes comes back with them, and with its number.
    private static void groupsAreKept() {
        DiagramDesk desk = States.chosen(new int[] {0, 0}, new int[] {20, 0}, new int[] {40, 0}, new int[] {60, 0});
        States.choose(desk, 0, 1);
        desk.group();
        desk.removeShape(0);
        desk.removeShape(1);
        States.choose(desk, 2, 3);
        Due.due("the number is free", desk.group(), 0);
        for (int left = 5; left >= 3; left--) {
            Due.due("undo", desk.undo(), left);
            Due.due("no group", desk.shapesOf(0), DiagramDesk.BAD);
        }
        Due.due("undo", desk.undo(), 2);
        Due.due("the group is back with one shape", desk.shapesOf(0), 2);
        Due.due("undo", desk.undo(), 1);
        Due.due("the group is back with both", desk.shapesOf(0), 3);
    }

    // A removal that is undone gives the shape back; an addition that is undone was none.
    private static void numbersAreKept() {
        DiagramDesk desk = Due.deskWith(20);
        Due.due("undo the last addition", desk.undo(), 5);
        Due.due("room for one", desk.addShape(1, 0, 0, 1, 1), 19);
        Due.due("and no more", desk.addShape(1, 0, 0, 1, 1), DiagramDesk.FULL);
        desk.removeShape(0);
        Due.due("undo the removal", desk.undo(), 5);
        Due.due("the shape is back", desk.shape(0, 3), 50);
        Due.due("no room", desk.addShape(1, 0, 0, 1, 1), DiagramDesk.FULL);
    }

    // The buffer is not named among what the history keeps.
    private static void bufferIsNotKept() {
        DiagramDesk desk = acts(2);
        Due.typeAll(desk, "b0,0,1,1");
        Due.due("undo", desk.undo(), 1);
        Due.due("the buffer stays", desk.read(), 1);
        Due.due("undo", desk.undo(), 1);
        Due.due("the buffer stays empty", desk.read(), -100);
    }

    private static void looksAreNoActs() {
        Edge.still("shape", States::busy, desk -> desk.shape(0, 3), 40);
        Edge.still("port", States::busy, desk -> desk.port(0, 1, 0), 40);
        Edge.still("at", States::busy, desk -> desk.at(0, 0), 0);
        Edge.still("connectors", States::busy, desk -> desk.connectors(), 4);
        Edge.still("point", States::busy, desk -> desk.point(0, 1, 0), 100);
        Edge.still("length", States::busy, desk -> desk.length(0), 80);
        Edge.still("through", States::busy, desk -> desk.through(0), 1 << 4);
        Edge.still("selected", States::busy, desk -> desk.selected(), 0b1111011);
        Edge.still("shapesOf", States::busy, desk -> desk.shapesOf(3), 0b110000);
        Edge.still("correction", States::busy, desk -> desk.correction(0, 0, 1), 2);
        Edge.still("fingerprint", States::busy, desk -> desk.fingerprint(), States.busy().fingerprint());
        Edge.still("fingerprint of all", States::full, desk -> desk.fingerprint(), States.full().fingerprint());
    }

    // "It starts as 89": then connectors() alone
    private static void emptyFingerprint() {
        Edge.still("fingerprint of an empty desk", DiagramDesk::new, desk -> desk.fingerprint(), 89 * 31);
        DiagramDesk settings = acts(3);
        settings.addGuide(0, 7);
        settings.type('b');
        Due.due("settings and the buffer are not in it", settings.fingerprint(), 89 * 31);
    }

    private static long mixed(long... numbers) {
        long sum = 89;
        for (long number : numbers) {
            sum = 31 * sum + number;
        }
        return sum;
    }

    private static void fingerprintOfNumbers() {
        Due.due("one shape at the ends", one(2, -10000, 10000, 1, 500).fingerprint(),
                mixed(0, 2, -10000, 10000, 1, 500, 0, 0, NONE, NONE, 0));
        DiagramDesk desk = States.chosen(new int[] {0, 0}, new int[] {20, 0}, new int[] {-3, 0});
        desk.connect(0, 1, 1, 3, 0);
        desk.connect(1, 0, 0, 0, 2);
        States.choose(desk, 0, 2);
        desk.group();
        Due.due("shapes, connectors, groups", desk.fingerprint(), mixed(0, 0, 0, 0, 10, 10, 1, 2, 0, 0,
                1, 0, 20, 0, 10, 10, 0, 1, NONE, NONE, 2, 0, -3, 0, 10, 10, 1, 0, 0, 0,
                2, 10, 0, 10, 5, 20, 5, 20, 0, 25, 0, 25, 0, 5, 0, 5, 0, 0, 5));
    }

    private static DiagramDesk one(int kind, int x, int y, int width, int height) {
        DiagramDesk desk = new DiagramDesk();
        desk.addShape(kind, x, y, width, height);
        return desk;
    }

    // "in long arithmetic with overflow": all that there can be
    private static void fingerprintOverflows() {
        DiagramDesk desk = States.full();
        long sum = 89;
        for (int k = 0; k < 20; k++) {
            sum = 31 * sum + k;
            for (int what = 0; what <= 8; what++) {
                sum = 31 * sum + desk.shape(k, what);
            }
        }
        sum = 31 * sum + 20;
        for (int c = 0; c < 20; c++) {
            sum = 31 * sum + desk.length(c);
            sum = 31 * sum + desk.through(c);
            for (int k = 0; desk.point(c, k, 0) != NONE; k++) {
                sum = 31 * sum + desk.point(c, k, 0);
                sum = 31 * sum + desk.point(c, k, 1);
            }
        }
        for (int g = 0; g < 8; g++) {
            sum = 31 * sum + g;
            sum = 31 * sum + desk.shapesOf(g);
        }
        Due.due("fingerprint of all", desk.fingerprint(), sum);
    }

    // "for each number from 0 to 19 that is that of a shape", "for each group": those that are there
    private static void fingerprintSkipsRemoved() {
        DiagramDesk desk = new DiagramDesk();
        for (int k = 0; k < 20; k++) {
            desk.addShape(1, k, 2, 3, 4);
        }
        for (int k = 0; k < 19; k++) {
            desk.removeShape(k);
        }
        Due.due("only the last shape", desk.fingerprint(), mixed(19, 1, 19, 2, 3, 4, 0, 0, NONE, NONE, 0));
        DiagramDesk groups = States.chosen(new int[] {0, 0}, new int[] {1, 1});
        groups.group();
        groups.addShape(0, 0, 0, 1, 1);
        groups.select(2, true);
        groups.group();
        groups.ungroup(0);
        groups.removeShape(0);
        groups.removeShape(1);
        Due.due("only group 1", groups.fingerprint(), mixed(2, 0, 0, 0, 1, 1, 1, 0, 1, 1, 0, 1, 4));
    }

    // "An object is used for at most 512 calls": the last one is answered like the others
    private static void lastCall() {
        DiagramDesk desk = Due.deskWith(20);
        for (int call = 21; call < CALLS; call++) {
            Due.due("call " + call, desk.bring(call % 2, true), call == 21 ? 18 : call == 22 ? 19 : 1);
        }
        Due.due("call " + CALLS, desk.undo(), 5);
        DiagramDesk acts = new DiagramDesk();
        for (int call = 1; call <= CALLS; call++) {
            Due.due("act " + call, acts.setTolerance(call % 51), call == 1 ? 5 : (call - 1) % 51);
        }
    }
}
