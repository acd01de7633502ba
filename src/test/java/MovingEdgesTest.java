import java.util.function.Supplier;

/** Each sentence on moving (DRAGGING, promises 20 to 24) that names a boundary case, with a test of its own. */
public final class MovingEdgesTest {
    private static final int BAD = DiagramDesk.BAD;
    private static final int STATE = DiagramDesk.STATE;
    private static final int OUTSIDE = DiagramDesk.OUTSIDE;
    private static final int NONE = DiagramDesk.NONE;
    private static final int FAR = 5000;

    public static void main(String[] args) {
        moveRanges();
        moveNothing();
        moveErrorOrder();
        moveToTheEnds();
        moveOneOutside();
        moveBeyondOnTheRight();
        moveOnlySelected();
        moveByNothing();
        moveCounts();
        dragRanges();
        dragNothing();
        dragErrorOrder();
        noAim();
        toleranceEdge();
        toleranceNone();
        toleranceLargest();
        smallestClass();
        smallestCorrection();
        negativeOfTwo();
        aimsOfGuides();
        aimsOfShapes();
        notOfSelected();
        gridNone();
        gridEnds();
        boxOfAll();
        axesApart();
        dragIntoTheCoordinates();
        dragOutOfTheCoordinates();
        correctionRanges();
        correctionOfNothing();
        correctionOutside();
        alignRange();
        alignFewerThanTwo();
        alignErrorOrder();
        alignTwo();
        alignCounts();
        alignHalves();
        alignOutside();
        distributeRange();
        distributeFewerThanThree();
        distributeSpaces();
        distributeRest();
        distributeEqual();
        distributeAfterAlign();
        distributeTwenty();
        distributeOutside();
        Due.finish();
    }

    /** One selected box of 10 by 10 there. */
    private static DiagramDesk one(int x, int y) {
        return States.chosen(new int[] {x, y});
    }

    private static void places(String name, DiagramDesk desk, int what, int... want) {
        for (int k = 0; k < want.length; k++) {
            Due.due(name + ": shape " + k, desk.shape(k, what), want[k]);
        }
    }

    // move: "dx: -20000 to 20000", "dy: -20000 to 20000"
    private static void moveRanges() {
        Edge.range("move, dx", States::busy, (desk, k) -> desk.move(k, 0), -20000, 20000, BAD);
        Edge.range("move, dy", States::busy, (desk, k) -> desk.move(0, k), -20000, 20000, BAD);
        Edge.act("move all the way up", () -> one(-10000, -10000), desk -> desk.move(20000, 20000), 0);
        Edge.act("move all the way down", () -> one(10000, 10000), desk -> desk.move(-20000, -20000), 0);
    }

    // move: "STATE if nothing is selected"
    private static void moveNothing() {
        Edge.still("move nothing", () -> Due.deskWith(3), desk -> desk.move(1, 1), STATE);
        Edge.still("move on an empty desk", DiagramDesk::new, desk -> desk.move(0, 0), STATE);
    }

    // "BAD if ..; STATE if ..; OUTSIDE ..", with "the one listed first is returned"
    private static void moveErrorOrder() {
        Edge.still("move nothing, wrong dx", () -> Due.deskWith(3), desk -> desk.move(20001, 0), BAD);
        Edge.still("move nothing, wrong dy", () -> Due.deskWith(3), desk -> desk.move(0, -20001), BAD);
        Edge.still("move outside, wrong dx", States::busy, desk -> desk.move(-20001, 20000), BAD);
        Edge.still("move outside, wrong dy", States::busy, desk -> desk.move(20000, 20001), BAD);
        Edge.still("move nothing outside", () -> Due.deskWith(3), desk -> desk.move(20000, 20000), STATE);
    }

    // "all shapes that are moved stay within the coordinates (x and y from -10000 to 10000)"
    private static void moveToTheEnds() {
        Supplier<DiagramDesk> state = () -> one(100, -100);
        Edge.act("move to the right end", state, desk -> desk.move(9900, 0), 0);
        Edge.still("move beyond it", state, desk -> desk.move(9901, 0), OUTSIDE);
        Edge.act("move to the left end", state, desk -> desk.move(-10100, 0), 0);
        Edge.still("move beyond it", state, desk -> desk.move(-10101, 0), OUTSIDE);
        Edge.act("move to the bottom end", state, desk -> desk.move(0, 10100), 0);
        Edge.still("move beyond it", state, desk -> desk.move(0, 10101), OUTSIDE);
        Edge.act("move to the top end", state, desk -> desk.move(0, -9900), 0);
        Edge.still("move beyond it", state, desk -> desk.move(0, -9901), OUTSIDE);
    }

    // All of them: one that would leave is enough, be it the first or the last.
    private static void moveOneOutside() {
        Supplier<DiagramDesk> state =
                () -> States.chosen(new int[] {9990, 0}, new int[] {0, 9980}, new int[] {-30, -9970});
        Edge.act("move all to the ends", state, desk -> desk.move(10, 20), 0);
        Edge.still("move the first one outside", state, desk -> desk.move(11, 20), OUTSIDE);
        Edge.still("move the second one outside", state, desk -> desk.move(10, 21), OUTSIDE);
        Edge.act("move all up", state, desk -> desk.move(0, -30), 0);
        Edge.still("move the last one outside", state, desk -> desk.move(0, -31), OUTSIDE);
    }

    // x and y alone are within the coordinates, not the right and the bottom.
    private static void moveBeyondOnTheRight() {
        DiagramDesk desk = new DiagramDesk();
        desk.addShape(0, 0, 0, 500, 500);
        desk.select(0, true);
        Due.due("move a large one to the corner", desk.move(10000, 10000), 0);
        Due.due("its right", desk.port(0, 1, 0), 10500);
    }

    // Those that are not moved don't count.
    private static void moveOnlySelected() {
        DiagramDesk desk = one(0, 0);
        desk.addShape(0, 10000, -10000, 10, 10);
        Due.due("move one alone", desk.move(1, -1), 0);
        places("move one alone", desk, 1, 1, 10000);
        places("move one alone", desk, 2, -1, -10000);
    }

    private static void moveByNothing() {
        Edge.act("move by nothing", States::busy, desk -> desk.move(0, 0), 1);
        Edge.act("move by nothing at the corner", () -> one(-10000, 10000), desk -> desk.move(0, 0), 0);
    }

    // "the number of connectors with just one selected shape at their ends": none, one, all of 20
    private static void moveCounts() {
        DiagramDesk star = Due.deskWith(4);
        for (int k = 0; k < 20; k++) {
            star.connect(k % 2 == 0 ? 0 : 1, 0, k % 2 == 0 ? 1 : 0, 0, 0);
        }
        star.select(2, true);
        Due.due("no selected end", star.move(0, 0), 0);
        star.select(0, true);
        Due.due("one selected end each", star.move(0, 0), 20);
        star.select(1, true);
        Due.due("both ends selected", star.move(0, 0), 0);
    }

    // drag: "dx: -20000 to 20000", "dy: -20000 to 20000"
    private static void dragRanges() {
        Edge.range("drag, dx", States::busy, (desk, k) -> desk.drag(k, 0), -20000, 20000, BAD);
        Edge.range("drag, dy", States::busy, (desk, k) -> desk.drag(0, k), -20000, 20000, BAD);
        Edge.act("drag all the way up", () -> one(-10000, -10000), desk -> desk.drag(20000, 20000), 44);
        Edge.act("drag all the way down", () -> one(10000, 10000), desk -> desk.drag(-20000, -20000), 44);
    }

    // drag: "STATE if nothing is selected"
    private static void dragNothing() {
        Edge.still("drag nothing", () -> Due.deskWith(3), desk -> desk.drag(1, 1), STATE);
        Edge.still("drag on an empty desk", DiagramDesk::new, desk -> desk.drag(0, 0), STATE);
    }

    // "BAD if ..; STATE if ..; OUTSIDE if ..", with "the one listed first is returned"
    private static void dragErrorOrder() {
        Edge.still("drag nothing, wrong dx", () -> Due.deskWith(3), desk -> desk.drag(-20001, 0), BAD);
        Edge.still("drag nothing, wrong dy", () -> Due.deskWith(3), desk -> desk.drag(0, 20001), BAD);
        Edge.still("drag outside, wrong dx", States::busy, desk -> desk.drag(20001, 20000), BAD);
        Edge.still("drag outside, wrong dy", States::busy, desk -> desk.drag(20000, -20001), BAD);
        Edge.still("drag nothing outside", () -> Due.deskWith(3), desk -> desk.drag(20000, 20000), STATE);
        Edge.still("drag outside", States::busy, desk -> desk.drag(20000, 0), OUTSIDE);
        Edge.still("drag outside", States::busy, desk -> desk.drag(0, -20000), OUTSIDE);
    }

    // "if no aim is possible, the correction is 0"; "where 4 stands for none"
    private static void noAim() {
        Edge.act("drag without aims", () -> one(0, 0), desk -> desk.drag(7, -9), 44);
        Edge.still("correction without aims", () -> one(0, 0), desk -> desk.correction(7, -9, 0), 0);
        DiagramDesk desk = one(0, 0);
        desk.drag(7, -9);
        places("drag without aims", desk, 1, 7);
        places("drag without aims", desk, 2, -9);
    }

    private static DiagramDesk guided(int tolerance, int... guides) {
        DiagramDesk desk = one(0, 0);
        for (int guide : guides) {
            desk.addGuide(0, guide);
        }
        desk.setTolerance(tolerance);
        return desk;
    }

    /** The selection is 200 wide, so that its lines are far from one another. */
    private static DiagramDesk wide(int tolerance, int... guides) {
        DiagramDesk desk = guided(tolerance, guides);
        desk.resize(0, 200, 200);
        return desk;
    }

    // "is possible if its absolute value is at most the tolerance": 5 and 6, on both sides, initially
    private static void toleranceEdge() {
        DiagramDesk desk = one(0, 0);
        desk.addGuide(0, 1000);
        desk.addGuide(1, -1000);
        int[] ways = {984, 985, 1005, 1006};
        int[] want = {0, 5, -5, 0};
        for (int k = 0; k < ways.length; k++) {
            Due.due("correction of x at " + ways[k], desk.correction(ways[k], 0, 0), want[k]);
            Due.due("correction of y at " + (ways[k] - 2000), desk.correction(0, ways[k] - 2000, 1), want[k]);
        }
    }

    // "The tolerance is 0 to 50": with 0 only an aim that is reached already
    private static void toleranceNone() {
        Due.due("just there", guided(0, 1000).drag(1000, 0), 40);
        Due.due("one beside", guided(0, 1000).drag(1001, 0), 44);
        Due.due("one beside", guided(0, 1000).drag(989, 0), 44);
    }

    private static void toleranceLargest() {
        Due.due("50 to the left", guided(50, 1000).correction(1050, 0, 0), -50);
        Due.due("51 to the left", guided(50, 1000).correction(1051, 0, 0), 0);
        Due.due("50 to the right", guided(50, 1000).correction(940, 0, 0), 50);
        Due.due("51 to the right", guided(50, 1000).correction(939, 0, 0), 0);
    }

    /** The selection of 10 by 10 at (0, 0), and one other box with the width and the height. */
    private static DiagramDesk beside(int x, int y, int width, int height) {
        DiagramDesk desk = one(0, 0);
        desk.addShape(0, x, y, width, height);
        return desk;
    }

    // "The possible aim of the smallest class is taken", also if one of a larger class is nearer
    private static void smallestClass() {
        DiagramDesk desk = beside(290, FAR, 20, 20);
        desk.addGuide(0, 290);
        Due.due("class 0 at 5 before class 1 at 0", desk.correction(295, 0, 0), -5);
        Due.due("its class", desk.drag(295, 0), 40);
        desk.undo();
        desk.setTolerance(4);
        Due.due("class 1 if class 0 is too far", desk.drag(295, 0), 41);

        desk = beside(200, FAR, 20, 20);
        Due.due("class 1 at 5 before class 2 at 0", desk.correction(200, 0, 0), 5);
        Due.due("its class", desk.drag(200, 0), 41);
        desk.undo();
        desk.setTolerance(4);
        Due.due("class 2 if class 1 is too far", desk.drag(200, 0), 42);

        desk = beside(200, FAR, 100, 100);
        desk.setGrid(3);
        Due.due("class 2 at 4 before class 3 at 0", desk.correction(204, 1, 0), -4);
        Due.due("its class", desk.drag(204, 1), 32);
        desk.undo();
        desk.setTolerance(3);
        Due.due("class 3 if class 2 is too far", desk.drag(204, 1), 33);
    }

    // "of several in this class the one with the smallest absolute value"
    private static void smallestCorrection() {
        Due.due("the nearer one to the right", wide(9, 1003, 996).correction(1000, 0, 0), 3);
        Due.due("the nearer one to the left", wide(9, 1004, 997).correction(1000, 0, 0), -3);
        Due.due("by another line", wide(9, 1004, 1099).correction(1000, 0, 0), -1);
    }

    // "of several the negative correction", in whatever order the aims come, for each class
    private static void negativeOfTwo() {
        Due.due("two guides", wide(5, 1003, 997).correction(1000, 0, 0), -3);
        Due.due("two guides, turned", wide(5, 997, 1003).correction(1000, 0, 0), -3);
        Due.due("two guides at different lines", wide(5, 1003, 1197).correction(1000, 0, 0), -3);
        DiagramDesk classes = wide(5, 1003);
        classes.addShape(0, 997, FAR, 400, 10);
        Due.due("as near, but of a larger class", classes.correction(1000, 0, 0), 3);
        for (int turn = -1; turn <= 1; turn += 2) {
            DiagramDesk centers = beside(1000 - 4 * turn, FAR, 10, 10);
            centers.addShape(0, 1000 + 4 * turn, FAR, 10, 10);
            Due.due("two centers", centers.correction(1000, 0, 0), -4);
            DiagramDesk sides = beside(turn < 0 ? 1004 : 906, FAR, 100, 100);
            sides.addShape(0, turn < 0 ? 906 : 1004, FAR, 100, 100);
            Due.due("two sides", sides.correction(1000, 0, 0), -4);
        }
        DiagramDesk grid = one(0, 0);
        grid.setGrid(10);
        Due.due("two multiples", grid.correction(1005, 0, 0), -5);
        Due.due("two negative multiples", grid.correction(-1005, 0, 0), -5);
    }

    // "class 0: each line of the selection on each guide of the user of this axis"
    private static void aimsOfGuides() {
        for (int line = 0; line <= 10; line += 5) {
            DiagramDesk desk = guided(0, 1000);
            Due.due("x, line at " + line, desk.drag(1000 - line, 0), 40);
            DiagramDesk upright = one(0, 0);
            upright.addGuide(1, 1000);
            upright.setTolerance(0);
            Due.due("y, line at " + line, upright.drag(0, 1000 - line), 4);
            Due.due("not of the other axis", upright.drag(1000 - line, 77), 44);
        }
        DiagramDesk ten = guided(0, 100, 200, 300, 400, 500, 600, 700, 800, 900, 1000);
        Due.due("the first of ten", ten.drag(100, 0), 40);
        Due.due("the last of ten", ten.drag(900, 0), 40);
    }

    // "class 1: the center .. on the center ..", "class 2: .. four aims for each shape"; and no others
    private static void aimsOfShapes() {
        int[] ways = {245, 200, 300, 190, 290, 195, 295, 240, 250, 199, 301};
        int[] want = {1, 2, 2, 2, 2, 4, 4, 4, 4, 4, 4};
        for (int k = 0; k < ways.length; k++) {
            DiagramDesk desk = beside(200, 200, 100, 100);
            desk.setTolerance(0);
            Due.due("drag x by " + ways[k], desk.drag(ways[k], FAR), 40 + want[k]);
            desk.undo();
            Due.due("drag y by " + ways[k], desk.drag(FAR, ways[k]), 4 + 10 * want[k]);
        }
    }

    // "each shape that is not selected": the first and the last number, and none of those selected
    private static void notOfSelected() {
        DiagramDesk desk = new DiagramDesk();
        for (int k = 0; k < 20; k++) {
            desk.addShape(0, 100 * k, 100 * k, 10, 10);
        }
        desk.select(7, true);
        desk.setTolerance(0);
        Due.due("on the first one", desk.drag(-700, 1), 41);
        Due.due("on the last one", desk.drag(1900, 0), 41);
        for (int k = 0; k < 20; k++) {
            desk.select(k, true);
        }
        Due.due("all are selected", desk.drag(0, 0), 44);
        desk.select(0, false);
        desk.removeShape(0);
        Due.due("the other one is removed", desk.drag(-100, -100), 44);
    }

    // "a grid step g (0 to 100, 0 for no grid; initially 0)"
    private static void gridNone() {
        DiagramDesk desk = one(0, 0);
        desk.setTolerance(50);
        Due.due("initially no grid", desk.drag(0, 0), 44);
        desk.setGrid(1);
        Due.due("a grid", desk.drag(0, 0), 33);
        desk.setGrid(0);
        Due.due("again no grid", desk.drag(0, 0), 44);
    }

    // "class 3, with a grid: the left (the top) of the selection on each multiple of g"
    private static void gridEnds() {
        DiagramDesk desk = one(0, 0);
        desk.setGrid(1);
        desk.setTolerance(0);
        Due.due("each place is a multiple of 1", desk.drag(-17, 23), 33);
        desk = one(0, 0);
        desk.setGrid(100);
        desk.setTolerance(50);
        int[] ways = {0, 49, 50, 51, 99, 100, -1, -49, -50, -51, -100};
        int[] want = {0, -49, -50, 49, 1, 0, 1, 49, -50, -49, 0};
        for (int k = 0; k < ways.length; k++) {
            Due.due("grid 100 at x " + ways[k], desk.correction(ways[k], 0, 0), want[k]);
            Due.due("grid 100 at y " + ways[k], desk.correction(0, ways[k], 1), want[k]);
        }
        desk.setTolerance(49);
        Due.due("half is too far now", desk.correction(50, 0, 0), 0);
        Due.due("no aim", desk.drag(50, 0), 34);
    }

    // "The three lines of the selection are the left, the center and the right of its box": of all of it
    private static void boxOfAll() {
        // The box is from 0 to 31, its center 15.
        DiagramDesk desk = States.chosen(new int[] {21, 0}, new int[] {0, 0});
        desk.addGuide(0, 1000);
        desk.setTolerance(0);
        int[] ways = {1000, 985, 969, 984, 979, 990};
        int[] want = {40, 40, 40, 44, 44, 44};
        for (int k = 0; k < ways.length; k++) {
            Due.due("drag the whole by " + ways[k], desk.drag(ways[k], 0), want[k]);
            desk.undo();
        }
    }

    // "for each axis separately"
    private static void axesApart() {
        DiagramDesk desk = one(0, 0);
        desk.addGuide(0, 1000);
        desk.setGrid(100);
        Due.due("drag", desk.drag(1003, 204), 30);
        places("drag", desk, 1, 1000);
        places("drag", desk, 2, 200);
        Due.due("correction of x knows nothing of dy", desk.correction(2, 20000, 0), -2);
        Due.due("correction of y knows nothing of dx", desk.correction(-20000, 2, 1), -2);
    }

    private static DiagramDesk onGrid(int step) {
        DiagramDesk desk = one(0, 0);
        desk.setGrid(step);
        return desk;
    }

    // "OUTSIDE if a shape would leave the coordinates, corrections included": they may bring it in
    private static void dragIntoTheCoordinates() {
        Edge.act("corrected to the end", () -> onGrid(100), desk -> desk.drag(10005, -10005), 33);
        Edge.still("not corrected, just beyond", () -> one(0, 0), desk -> desk.drag(10001, 0), OUTSIDE);
        Edge.act("not corrected, at the end", () -> one(0, 0), desk -> desk.drag(10000, -10000), 44);
        Edge.still("too far to be corrected", () -> onGrid(100), desk -> desk.drag(10006, 0), OUTSIDE);
        Edge.still("too far to be corrected", () -> onGrid(100), desk -> desk.drag(0, -10006), OUTSIDE);
    }

    // They may bring it out: 10001 is a multiple of 73.
    private static void dragOutOfTheCoordinates() {
        Edge.still("corrected beyond the right", () -> onGrid(73), desk -> desk.drag(9999, 0), OUTSIDE);
        Edge.still("corrected beyond the left", () -> onGrid(73), desk -> desk.drag(-9999, 0), OUTSIDE);
        Edge.still("corrected beyond the bottom", () -> onGrid(73), desk -> desk.drag(0, 9999), OUTSIDE);
        Edge.still("corrected beyond the top", () -> onGrid(73), desk -> desk.drag(0, -9999), OUTSIDE);
        Edge.act("too far from there", () -> onGrid(73), desk -> desk.drag(9995, 9995), 44);
    }

    // correction: "NONE if an argument is not in its range"
    private static void correctionRanges() {
        for (int axis = 0; axis <= 1; axis++) {
            int asked = axis;
            Edge.range("correction, dx", States::busy, (desk, k) -> desk.correction(k, 0, asked), -20000, 20000, NONE);
            Edge.range("correction, dy", States::busy, (desk, k) -> desk.correction(0, k, asked), -20000, 20000, NONE);
        }
        Edge.range("correction, axis", States::busy, (desk, k) -> desk.correction(0, 0, k), 0, 1, NONE);
    }

    // correction: "or nothing is selected"
    private static void correctionOfNothing() {
        Edge.still("correction of nothing", () -> Due.deskWith(3), desk -> desk.correction(0, 0, 0), NONE);
        Edge.still("correction on an empty desk", DiagramDesk::new, desk -> desk.correction(0, 0, 1), NONE);
    }

    // "without doing it (whether it would leave the coordinates or not)"
    private static void correctionOutside() {
        Edge.still("correction", States::busy, desk -> desk.correction(0, 0, 0), -3);
        Edge.still("correction", States::busy, desk -> desk.correction(0, 0, 1), 2);
        Edge.still("correction beyond the right", () -> onGrid(73), desk -> desk.correction(9999, 0, 0), 2);
        Edge.still("correction beyond the top", () -> onGrid(73), desk -> desk.correction(0, -9999, 1), -2);
        DiagramDesk desk = onGrid(7);
        desk.move(10000, -10000);
        Due.due("correction at 30000", desk.correction(20000, 0, 0), 2);
        Due.due("correction at -30000", desk.correction(0, -20000, 1), -2);
    }

    // align: "line: 0 .. 5"
    private static void alignRange() {
        Edge.range("align", States::busy, (desk, k) -> desk.align(k), 0, 5, BAD);
        int[] want = {2, 3, 2, 2, 3, 2};
        for (int line = 0; line <= 5; line++) {
            int asked = line;
            Edge.act("align " + line, States::busy, desk -> desk.align(asked), want[line]);
        }
    }

    private static DiagramDesk oneGroup() {
        DiagramDesk desk = States.chosen(new int[] {0, 0}, new int[] {30, 40}, new int[] {70, 7});
        desk.group();
        return desk;
    }

    // align: "STATE if there are fewer than two units"
    private static void alignFewerThanTwo() {
        for (int line = 0; line <= 5; line++) {
            int asked = line;
            Edge.still("align nothing", () -> Due.deskWith(3), desk -> desk.align(asked), STATE);
            Edge.still("align one", () -> one(3, 4), desk -> desk.align(asked), STATE);
            Edge.still("align one group", MovingEdgesTest::oneGroup, desk -> desk.align(asked), STATE);
        }
    }

    // "BAD if ..; STATE if ..", with "the one listed first is returned"
    private static void alignErrorOrder() {
        Edge.still("align nothing, wrong line", () -> Due.deskWith(3), desk -> desk.align(6), BAD);
        Edge.still("align one, wrong line", () -> one(0, 0), desk -> desk.align(-1), BAD);
    }

    private static void alignTwo() {
        Supplier<DiagramDesk> state = () -> States.chosen(new int[] {0, 0}, new int[] {100, -50});
        int[][] want = {{0, 0}, {50, 50}, {100, 100}, {-50, -50}, {-25, -25}, {0, 0}};
        int[] moved = {1, 2, 1, 1, 2, 1};
        for (int line = 0; line <= 5; line++) {
            int asked = line;
            Edge.act("align two", state, desk -> desk.align(asked), moved[line]);
            DiagramDesk desk = state.get();
            desk.align(line);
            places("align " + line, desk, 1 + line / 3, want[line]);
        }
    }

    // "Returns the number of units whose place changes": none, and a group as one
    private static void alignCounts() {
        Supplier<DiagramDesk> state = () -> States.chosen(new int[] {5, 5}, new int[] {5, 5}, new int[] {5, 5});
        for (int line = 0; line <= 5; line++) {
            int asked = line;
            Edge.act("align what is aligned", state, desk -> desk.align(asked), 0);
        }
        DiagramDesk desk = oneGroup();
        desk.addShape(0, -50, -50, 10, 10);
        desk.select(3, true);
        Due.due("the group alone moves", desk.align(0), 1);
        places("the group alone moves", desk, 1, -50, -20, 20, -50);
    }

    // "rounded down (also for negative numbers)": the box is from -7 to 2, its center -3
    private static void alignHalves() {
        for (int axis = 0; axis <= 1; axis++) {
            DiagramDesk desk = new DiagramDesk();
            desk.addShape(0, -7, -7, 5, 5);
            desk.addShape(0, 0, 0, 2, 2);
            desk.select(0, true);
            desk.select(1, true);
            Due.due("align to the center", desk.align(1 + 3 * axis), 2);
            places("align to the center", desk, 1 + axis, -5, -4);
        }
    }

    /** Aligned to the right (the bottom), the second one comes to 10490 minus its size. */
    private static DiagramDesk nearTheEnd(int size) {
        DiagramDesk desk = new DiagramDesk();
        desk.addShape(0, 9990, 9990, 500, 500);
        desk.addShape(0, 0, 0, size, size);
        desk.select(0, true);
        desk.select(1, true);
        return desk;
    }

    // align: "OUTSIDE as described"
    private static void alignOutside() {
        Edge.act("align to the right end", () -> nearTheEnd(490), desk -> desk.align(2), 1);
        Edge.still("align beyond it", () -> nearTheEnd(489), desk -> desk.align(2), OUTSIDE);
        Edge.act("align to the bottom end", () -> nearTheEnd(490), desk -> desk.align(5), 1);
        Edge.still("align beyond it", () -> nearTheEnd(489), desk -> desk.align(5), OUTSIDE);
        DiagramDesk first = new DiagramDesk();
        first.addShape(0, 0, 0, 489, 489);
        first.addShape(0, 9990, 9990, 500, 500);
        first.select(0, true);
        first.select(1, true);
        Due.due("align the first one beyond the right end", first.align(2), OUTSIDE);
        Due.due("align the first one beyond the bottom end", first.align(5), OUTSIDE);
        first.resize(0, 490, 490);
        Due.due("align the first one to the right end", first.align(2), 1);
        Due.due("align the first one to the bottom end", first.align(5), 1);
        Supplier<DiagramDesk> corners = () -> States.chosen(new int[] {-10000, 10000}, new int[] {10000, -10000});
        Edge.act("align at the left end", corners, desk -> desk.align(0), 1);
        Edge.act("align at the top end", corners, desk -> desk.align(3), 1);
    }

    // distribute: "NONE (which is an error here) if axis is not 0 or 1"
    private static void distributeRange() {
        Edge.range("distribute", States::busy, (desk, k) -> desk.distribute(k), 0, 1, NONE);
        Edge.act("distribute x", States::busy, desk -> desk.distribute(0), 121);
        Edge.act("distribute y", States::busy, desk -> desk.distribute(1), 156);
    }

    private static DiagramDesk groupAndShape() {
        DiagramDesk desk = oneGroup();
        desk.addShape(0, 100, 100, 10, 10);
        desk.select(3, true);
        return desk;
    }

    // distribute: "there are fewer than three units"
    private static void distributeFewerThanThree() {
        for (int axis = 0; axis <= 1; axis++) {
            int asked = axis;
            Edge.still("distribute nothing", () -> Due.deskWith(4), desk -> desk.distribute(asked), NONE);
            Edge.still("distribute one", () -> one(0, 0), desk -> desk.distribute(asked), NONE);
            Edge.still("distribute two", () -> States.chosen(new int[] {0, 0}, new int[] {50, 50}),
                    desk -> desk.distribute(asked), NONE);
            Edge.still("distribute two units of four shapes", MovingEdgesTest::groupAndShape,
                    desk -> desk.distribute(asked), NONE);
            Edge.act("distribute three", () -> States.chosen(new int[] {0, 0}, new int[] {7, 7}, new int[] {50, 50}),
                    desk -> desk.distribute(asked), 30);
        }
    }

    private static DiagramDesk three(int last) {
        return States.chosen(new int[] {0, 0}, new int[] {1, 1}, new int[] {last, last});
    }

    // "(it can be negative)": a space of -1 to -4 is no error; "rounded down"
    private static void distributeSpaces() {
        // With an odd space the first of the two gaps gets 1 more.
        int[] want = {8, 9, 9, 10, 10, 11, 11};
        for (int space = -4; space <= 2; space++) {
            int last = 20 + space;
            for (int axis = 0; axis <= 1; axis++) {
                int asked = axis;
                Edge.act("distribute with space " + space, () -> three(last), desk -> desk.distribute(asked), space);
                DiagramDesk desk = three(last);
                desk.distribute(axis);
                places("distribute with space " + space, desk, 1 + axis, 0, want[space + 4], last);
                places("the other axis", desk, 2 - axis, 0, 1, last);
            }
        }
    }

    // "the first (space mod (n - 1), from 0 on) gaps 1 more", for negative spaces, too
    private static void distributeRest() {
        int[][] want = {{9, 18}, {10, 19}, {10, 20}, {10, 20}, {11, 21}, {11, 22}, {11, 22}};
        for (int space = -3; space <= 3; space++) {
            DiagramDesk desk = States.chosen(new int[] {0, 0}, new int[] {1, 0}, new int[] {2, 0},
                    new int[] {30 + space, 0});
            Due.due("distribute four", desk.distribute(0), space);
            places("distribute four, space " + space, desk, 1, 0, want[space + 3][0], want[space + 3][1], 30 + space);
        }
    }

    // "those with equal ones as they are ordered. The first one and the last one stay."
    private static void distributeEqual() {
        DiagramDesk desk = States.chosen(new int[] {0, 0}, new int[] {0, 50}, new int[] {0, 100});
        desk.resize(1, 20, 10);
        desk.resize(2, 40, 10);
        Due.due("distribute all at one place", desk.distribute(0), -30);
        places("distribute all at one place", desk, 1, 0, -5, 0);
        Due.due("distribute what is distributed", desk.distribute(1), 80);
        places("distribute what is distributed", desk, 2, 0, 50, 100);
    }

    // .. whatever was planned for them before
    private static void distributeAfterAlign() {
        DiagramDesk desk = three(40);
        desk.align(2);
        desk.undo();
        desk.align(4);
        desk.undo();
        Due.due("distribute after align", desk.distribute(0), 20);
        places("distribute after align", desk, 1, 0, 20, 40);
        places("distribute after align", desk, 2, 0, 1, 40);
    }

    private static void distributeTwenty() {
        DiagramDesk desk = new DiagramDesk();
        for (int k = 0; k < 20; k++) {
            desk.addShape(0, 19 - k, 0, 1, 1);
            desk.select(k, true);
        }
        // Shapes 19 to 1 touch one another.
        desk.removeShape(0);
        Due.due("distribute nineteen", desk.distribute(0), 0);
        DiagramDesk all = new DiagramDesk();
        for (int k = 0; k < 20; k++) {
            all.addShape(0, k == 0 ? 19 * 11 : 19 - k, 0, 1, 1);
            all.select(k, true);
        }
        // Shape 19 is the first one, shape 0 the last, and 19 gaps of 10 are between them.
        Due.due("distribute twenty", all.distribute(0), 190);
        for (int k = 0; k < 20; k++) {
            Due.due("distribute twenty, shape " + k, all.shape(k, 1), k == 0 ? 209 : 11 * (19 - k));
        }
    }

    /** Two that stay at the right (the bottom) end, and one between them that comes to 10050 minus half its size. */
    private static DiagramDesk atTheUpperEnd(int size) {
        DiagramDesk desk = new DiagramDesk();
        desk.addShape(0, 9600, 9600, 500, 500);
        desk.addShape(0, 9700, 9700, size, size);
        desk.addShape(0, 10000, 10000, 10, 10);
        for (int k = 0; k < 3; k++) {
            desk.select(k, true);
        }
        return desk;
    }

    /** Three at the left (the top) end: the second one comes to the half of 1 minus its size from there. */
    private static DiagramDesk atTheLowerEnd(int size) {
        DiagramDesk desk = new DiagramDesk();
        desk.addShape(0, -10000, -10000, 1, 1);
        desk.addShape(0, -10000, -10000, size, size);
        desk.addShape(0, -10000, -10000, 50, 50);
        for (int k = 0; k < 3; k++) {
            desk.select(k, true);
        }
        return desk;
    }

    // distribute: "or a shape would leave the coordinates"
    private static void distributeOutside() {
        for (int axis = 0; axis <= 1; axis++) {
            int asked = axis;
            Edge.act("distribute to the upper end", () -> atTheUpperEnd(100), desk -> desk.distribute(asked), -200);
            Edge.still("distribute beyond it", () -> atTheUpperEnd(98), desk -> desk.distribute(asked), NONE);
            Edge.act("distribute to the lower end", () -> atTheLowerEnd(1), desk -> desk.distribute(asked), -2);
            Edge.act("distribute to the lower end", () -> atTheLowerEnd(2), desk -> desk.distribute(asked), -3);
            Edge.still("distribute beyond it", () -> atTheLowerEnd(3), desk -> desk.distribute(asked), NONE);
        }
    }
}
