/** Each sentence on guides (GUIDES, promises 25 to 28) that names a boundary case, with a test of its own. */
public final class GuideEdgesTest {
    private static final int BAD = DiagramDesk.BAD;
    private static final int FULL = DiagramDesk.FULL;

    public static void main(String[] args) {
        tenGuides();
        axisRange();
        atRange();
        badBeforeFull();
        sameGuides();
        guidesAtTheEnds();
        clearNone();
        clearAll();
        gridRange();
        gridPrevious();
        toleranceRange();
        tolerancePrevious();
        Due.finish();
    }

    private static DiagramDesk guides(int count) {
        DiagramDesk desk = new DiagramDesk();
        for (int k = 0; k < count; k++) {
            Due.due("addGuide", desk.addGuide(k % 2, 10 * k), k + 1);
        }
        return desk;
    }

    // "There are at most 10 guides of the user", of both axes; "FULL if there are 10 guides"
    private static void tenGuides() {
        Edge.act("the first guide", () -> guides(0), desk -> desk.addGuide(1, 5), 1);
        Edge.act("the tenth guide", () -> guides(9), desk -> desk.addGuide(1, 5), 10);
        Edge.still("one more", () -> guides(10), desk -> desk.addGuide(0, 5), FULL);
        Edge.still("one more", () -> guides(10), desk -> desk.addGuide(1, 5), FULL);
        Edge.still("one more on a full desk", States::full, desk -> desk.addGuide(1, 5), FULL);
        DiagramDesk again = guides(10);
        again.clearGuides();
        Due.due("room again", again.addGuide(0, 5), 1);
    }

    // "axis: 0 for a guide at an x, 1 for one at a y"
    private static void axisRange() {
        Edge.range("addGuide, axis", States::busy, (desk, k) -> desk.addGuide(k, 0), 0, 1, BAD);
    }

    // "at: -10000 to 10000"
    private static void atRange() {
        Edge.range("addGuide, x", States::busy, (desk, k) -> desk.addGuide(0, k), -10000, 10000, BAD);
        Edge.range("addGuide, y", States::busy, (desk, k) -> desk.addGuide(1, k), -10000, 10000, BAD);
    }

    // "BAD if ..; FULL if ..", with "the one listed first is returned"
    private static void badBeforeFull() {
        Edge.still("addGuide, wrong axis and full", States::full, desk -> desk.addGuide(2, 0), BAD);
        Edge.still("addGuide, wrong axis and full", States::full, desk -> desk.addGuide(-1, 0), BAD);
        Edge.still("addGuide, wrong place and full", States::full, desk -> desk.addGuide(0, 10001), BAD);
        Edge.still("addGuide, wrong place and full", States::full, desk -> desk.addGuide(1, -10001), BAD);
    }

    // Nothing rules out several guides at one place.
    private static void sameGuides() {
        DiagramDesk desk = new DiagramDesk();
        for (int k = 1; k <= 10; k++) {
            Due.due("the same guide again", desk.addGuide(0, -10000), k);
        }
        Due.due("all of them", desk.clearGuides(), 10);
    }

    private static void guidesAtTheEnds() {
        DiagramDesk desk = States.chosen(new int[] {0, 0});
        desk.addGuide(0, -10000);
        desk.addGuide(1, 10000);
        Due.due("drag to both", desk.drag(-9997, 9998), 0);
        Due.due("its x", desk.shape(0, 1), -10000);
        Due.due("its y", desk.shape(0, 2), 10000);
    }

    // "Returns how many there were": none is no error
    private static void clearNone() {
        Edge.act("clearGuides on an empty desk", DiagramDesk::new, desk -> desk.clearGuides(), 0);
        Edge.act("clearGuides twice", () -> cleared(), desk -> desk.clearGuides(), 0);
    }

    private static DiagramDesk cleared() {
        DiagramDesk desk = guides(3);
        desk.clearGuides();
        return desk;
    }

    private static void clearAll() {
        Edge.act("clearGuides", States::busy, desk -> desk.clearGuides(), 3);
        Edge.act("clearGuides of all", States::full, desk -> desk.clearGuides(), 10);
    }

    // "step: 0 to 100"
    private static void gridRange() {
        Edge.range("setGrid", States::busy, (desk, k) -> desk.setGrid(k), 0, 100, BAD);
        Edge.range("setGrid", States::full, (desk, k) -> desk.setGrid(k), 0, 100, BAD);
    }

    // "Returns the previous one": "initially 0"
    private static void gridPrevious() {
        Edge.act("setGrid, initially 0", DiagramDesk::new, desk -> desk.setGrid(100), 0);
        Edge.act("setGrid after 7", States::busy, desk -> desk.setGrid(0), 7);
        Edge.act("setGrid after 100", States::full, desk -> desk.setGrid(100), 100);
        DiagramDesk desk = new DiagramDesk();
        desk.setGrid(100);
        desk.setGrid(0);
        Due.due("setGrid after 0", desk.setGrid(1), 0);
        Due.due("setGrid after 1", desk.setGrid(1), 1);
    }

    // "tolerance: 0 to 50"
    private static void toleranceRange() {
        Edge.range("setTolerance", States::busy, (desk, k) -> desk.setTolerance(k), 0, 50, BAD);
        Edge.range("setTolerance", States::full, (desk, k) -> desk.setTolerance(k), 0, 50, BAD);
    }

    // "Returns the previous one": "initially 5"
    private static void tolerancePrevious() {
        Edge.act("setTolerance, initially 5", DiagramDesk::new, desk -> desk.setTolerance(0), 5);
        Edge.act("setTolerance after 9", States::busy, desk -> desk.setTolerance(9), 9);
        Edge.act("setTolerance after 50", States::full, desk -> desk.setTolerance(0), 50);
        DiagramDesk desk = new DiagramDesk();
        desk.setTolerance(0);
        Due.due("setTolerance after 0", desk.setTolerance(50), 0);
        Due.due("setTolerance after 50", desk.setTolerance(50), 50);
    }
}
