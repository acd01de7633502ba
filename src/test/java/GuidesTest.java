/** Promises 25 to 28: addGuide, clearGuides, setGrid, setTolerance. */
public final class GuidesTest {
    private static final int[] FAR = {Integer.MIN_VALUE, -1, Integer.MAX_VALUE};

    public static void main(String[] args) {
        addGuide();
        grid();
        tolerance();
        Due.finish();
    }

    private static void addGuide() {
        DiagramDesk desk = Due.deskWith(1);
        desk.select(0, true);
        Due.due("addGuide: axis 2", desk.addGuide(2, 0), -1);
        for (int far : FAR) {
            Due.due("addGuide: axis", desk.addGuide(far, 0), -1);
        }
        Due.due("addGuide: -10001", desk.addGuide(0, -10001), -1);
        Due.due("addGuide: 10001", desk.addGuide(1, 10001), -1);
        Due.due("addGuide", desk.addGuide(0, -10000), 1);
        Due.due("addGuide", desk.addGuide(1, 10000), 2);
        for (int k = 3; k <= 10; k++) {
            Due.due("addGuide, also the same ones", desk.addGuide(0, 300), k);
        }
        Due.due("addGuide: full", desk.addGuide(1, 5), -3);
        Due.due("addGuide: BAD before FULL", desk.addGuide(2, 5), -1);
        Due.due("a guide catches", desk.correction(298, 0, 0), 2);
        Due.due("clearGuides", desk.clearGuides(), 10);
        Due.due("no guide catches", desk.correction(298, 0, 0), 0);
        Due.due("clearGuides again", desk.clearGuides(), 0);
        Due.due("addGuide", desk.addGuide(0, 100), 1);
        desk.undo();
        desk.undo();
        desk.undo();
        Due.due("the guides are back", desk.correction(298, 0, 0), 2);
        Due.due("all of them", desk.clearGuides(), 10);
    }

    private static void grid() {
        DiagramDesk desk = Due.deskWith(1);
        desk.select(0, true);
        Due.due("setGrid", desk.setGrid(100), 0);
        Due.due("setGrid: 101", desk.setGrid(101), -1);
        for (int far : FAR) {
            Due.due("setGrid: far", desk.setGrid(far), -1);
        }
        Due.due("the grid catches", desk.correction(298, 0, 0), 2);
        Due.due("setGrid 0", desk.setGrid(0), 100);
        Due.due("no grid", desk.correction(298, 0, 0), 0);
        desk.undo();
        Due.due("the grid is back", desk.setGrid(1), 100);
    }

    private static void tolerance() {
        DiagramDesk desk = Due.deskWith(1);
        desk.select(0, true);
        desk.addGuide(0, 300);
        Due.due("initially 5", desk.correction(295, 0, 0), 5);
        Due.due("and no more", desk.correction(294, 0, 0), 0);
        Due.due("setTolerance", desk.setTolerance(50), 5);
        Due.due("setTolerance: 51", desk.setTolerance(51), -1);
        for (int far : FAR) {
            Due.due("setTolerance: far", desk.setTolerance(far), -1);
        }
        Due.due("50 is possible", desk.correction(350, 0, 0), -50);
        Due.due("51 is not", desk.correction(351, 0, 0), 0);
        Due.due("setTolerance 0", desk.setTolerance(0), 50);
        Due.due("0 is possible", desk.drag(300, 0), 40);
        Due.due("1 is not", desk.correction(-1, 0, 0), 0);
        desk.undo();
        desk.undo();
        Due.due("the tolerance is back", desk.setTolerance(1), 50);
    }
}
