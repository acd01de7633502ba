/** Promises 32 and 33: undo, fingerprint. */
public final class HistoryTest {
    private static final int NONE = DiagramDesk.NONE;

    public static void main(String[] args) {
        limit();
        eachAct();
        looksAreNoActs();
        fullIsNoAct();
        numbersComeBack();
        fingerprint();
        Due.finish();
    }

    private static void limit() {
        DiagramDesk desk = new DiagramDesk();
        Due.due("undo nothing", desk.undo(), NONE);
        for (int k = 1; k <= 9; k++) {
            desk.setGrid(k);
        }
        for (int left = 5; left >= 0; left--) {
            Due.due("undo", desk.undo(), left);
        }
        Due.due("undo: no more", desk.undo(), NONE);
        Due.due("six acts are undone", desk.setGrid(50), 3);
        Due.due("undo that", desk.undo(), 0);
        Due.due("the grid", desk.setGrid(60), 3);
        desk.setGrid(61);
        Due.due("undo", desk.undo(), 1);
        desk.setGrid(62);
        Due.due("undo the later one", desk.undo(), 1);
        Due.due("undo the first one", desk.undo(), 0);
        Due.due("the grid", desk.setGrid(0), 3);
    }

    /** Four shapes with connectors, a group of two, one guide; shapes 0 to 2 are selected. */
    private static DiagramDesk prepared() {
        DiagramDesk desk = Due.deskWith(4);
        desk.connect(0, 1, 1, 3, 1);
        desk.connect(2, 1, 3, 3, 2);
        desk.select(0, true);
        desk.select(1, true);
        desk.group();
        desk.select(2, true);
        desk.addGuide(0, 70);
        return desk;
    }

    private static int act(DiagramDesk desk, int which) {
        switch (which) {
            case 0: return desk.addShape(1, 0, 0, 9, 9);
            case 1: return desk.removeShape(0);
            case 2: return desk.resize(1, 300, 7);
            case 3: return desk.bring(0, true);
            case 4: return desk.connect(0, 0, 2, 0, 0);
            case 5: return desk.disconnect(0);
            case 6: return desk.select(3, true);
            case 7: return desk.group();
            case 8: return desk.ungroup(0);
            case 9: return desk.move(1, 2);
            case 10: return desk.drag(100, 200);
            case 11: return desk.align(0);
            case 12: return desk.addGuide(1, 7);
            case 13: return desk.clearGuides();
            case 14: return desk.setGrid(9);
            case 15: return desk.setTolerance(9);
            case 16: return Due.read(desk, "b0,0,5,5");
            // Those that leave all as it was are acts all the same.
            case 17: return desk.resize(1, 50, 50);
            case 18: return desk.select(0, true);
            case 19: return desk.bring(3, true);
            case 20: return desk.move(0, 0);
            case 21: return desk.setGrid(0);
            default: return desk.setTolerance(5);
        }
    }

    private static void eachAct() {
        for (int which = 0; which <= 22; which++) {
            DiagramDesk desk = prepared();
            long before = desk.fingerprint();
            // The sixth latest act stays in the history, as one more drops it.
            for (int k = 0; k < 7; k++) {
                desk.undo();
            }
            Due.due("history is empty before act " + which, desk.undo(), NONE);
            desk = prepared();
            Due.due("act " + which + " is no error", act(desk, which) >= 0 ? 1 : 0, 1);
            Due.due("act " + which + " is in the history", desk.undo(), 5);
            Due.due("act " + which + " is undone", desk.fingerprint(), before);
            Due.due("guides after act " + which, desk.clearGuides(), 1);
            Due.due("grid after act " + which, desk.setGrid(1), 0);
            Due.due("tolerance after act " + which, desk.setTolerance(1), 5);
        }
        DiagramDesk desk = Due.deskWith(3);
        for (int k = 0; k < 3; k++) {
            desk.select(k, true);
        }
        desk.resize(0, 70, 50);
        Due.due("distribute is an act", desk.distribute(0), 80);
        Due.due("it moves one", desk.shape(1, 1), 110);
        desk.undo();
        Due.due("and is undone", desk.shape(1, 1), 100);
        Due.due("but not the act before it", desk.shape(0, 3), 70);
    }

    private static void looksAreNoActs() {
        DiagramDesk desk = Due.deskWith(3);
        desk.shape(0, 0);
        desk.port(0, 0, 0);
        desk.at(0, 0);
        desk.connectors();
        desk.point(0, 0, 0);
        desk.length(0);
        desk.through(0);
        desk.selected();
        desk.shapesOf(0);
        desk.correction(0, 0, 0);
        desk.type(65);
        desk.clear();
        desk.fingerprint();
        // Errors neither.
        desk.addShape(9, 0, 0, 1, 1);
        desk.removeShape(9);
        desk.resize(0, 0, 0);
        desk.bring(9, true);
        desk.connect(0, 0, 0, 0, 0);
        desk.disconnect(0);
        desk.select(9, true);
        desk.group();
        desk.ungroup(0);
        desk.move(0, 0);
        desk.drag(0, 0);
        desk.align(0);
        desk.distribute(0);
        desk.addGuide(2, 0);
        desk.setGrid(-1);
        desk.setTolerance(-1);
        desk.read();
        Due.due("three acts", desk.undo(), 2);
        Due.due("the third one undone", desk.shape(2, 0), NONE);
    }

    /** Each undo takes the latest act before the call that found no room. */
    private static void fullIsNoAct() {
        DiagramDesk desk = Due.deskWith(20);
        Due.due("addShape: full", desk.addShape(0, 0, 0, 1, 1), -3);
        Due.due("read: full", Due.read(desk, "b0,0,1,1"), -3);
        desk.undo();
        Due.due("the last shape is undone", desk.shape(19, 0), NONE);
        for (int k = 0; k < 20; k++) {
            desk.connect(0, 0, 1, 0, 0);
        }
        Due.due("connect: full", desk.connect(0, 0, 1, 0, 0), -3);
        desk.undo();
        Due.due("the last connector is undone", desk.connectors(), 19);
        for (int k = 0; k < 10; k++) {
            desk.addGuide(0, k);
        }
        Due.due("addGuide: full", desk.addGuide(0, 10), -3);
        desk.undo();
        Due.due("the last guide is undone", desk.clearGuides(), 9);
        desk.select(0, true);
        for (int k = 1; k < 9; k++) {
            desk.select(k, true);
            desk.group();
        }
        desk.select(9, true);
        Due.due("group: full", desk.group(), -3);
        desk.undo();
        Due.due("the last selection is undone", desk.selected(), 511);
        Due.due("move: outside", desk.move(20000, 0), -4);
        Due.due("drag: outside", desk.drag(0, -20000), -4);
        desk.undo();
        Due.due("the last group is undone", desk.shapesOf(7), -1);
    }

    private static void numbersComeBack() {
        DiagramDesk desk = Due.deskWith(2);
        desk.addShape(1, 7, 7, 7, 7);
        desk.undo();
        Due.due("an undone shape was never added", desk.addShape(0, 0, 0, 1, 1), 2);
        desk.removeShape(2);
        desk.undo();
        Due.due("a removed shape is back", desk.shape(2, 3), 1);
        Due.due("in its depth", desk.shape(2, 6), 0);
        Due.due("the next one", desk.addShape(0, 0, 0, 1, 1), 3);
    }

    private static void fingerprint() {
        DiagramDesk desk = new DiagramDesk();
        Due.due("fingerprint of nothing", desk.fingerprint(), 2759);
        desk.addShape(0, 1, 2, 3, 4);
        long sum = 89;
        int[] numbers = {0, 0, 1, 2, 3, 4, 0, 0, NONE, NONE, 0};
        for (int number : numbers) {
            sum = 31 * sum + number;
        }
        Due.due("fingerprint of one shape", desk.fingerprint(), sum);
        desk.addShape(2, 11, 2, 3, 4);
        desk.addShape(1, 5, 3, 2, 2);
        desk.removeShape(2);
        desk.addShape(1, 5, 3, 2, 2);
        desk.connect(0, 1, 1, 3, 1);
        desk.select(0, true);
        desk.select(1, true);
        desk.group();
        int[] more = {0, 0, 1, 2, 3, 4, 1, 2, 0, 0, 1, 2, 11, 2, 3, 4, 1, 1, 0, 0, 3, 1, 5, 3, 2, 2, 0, 0, NONE, NONE,
            1, 7, 8, 4, 4, 11, 4, 11, 4, 0, 3};
        sum = 89;
        for (int number : more) {
            sum = 31 * sum + number;
        }
        Due.due("fingerprint", desk.fingerprint(), sum);
        Due.due("fingerprint changes nothing", desk.fingerprint(), sum);
    }
}
