/** Each sentence on shapes (SHAPES, promises 1 to 8) that names a boundary case, with a test of its own. */
public final class ShapeEdgesTest {
    private static final int BAD = DiagramDesk.BAD;
    private static final int FULL = DiagramDesk.FULL;
    private static final int NONE = DiagramDesk.NONE;

    public static void main(String[] args) {
        constants();
        newObject();
        twentyShapes();
        unusedForEver();
        kindRange();
        placeRanges();
        sizeRanges();
        badBeforeFull();
        newShapeIsApart();
        newShapeInFront();
        beyondTheCoordinates();
        boxBorder();
        ellipseBorder();
        smallestEllipse();
        largestEllipse();
        diamondBorder();
        smallestDiamond();
        largestDiamond();
        farthestPoints();
        oddHalves();
        negativeHalves();
        removeNoShape();
        removeFirstAndLast();
        removeWithConnectors();
        removeFromGroupAndSelection();
        removeInDepth();
        resizeNoShape();
        resizeRanges();
        resizeStays();
        resizeCounts();
        shapeOfNone();
        whatRange();
        inNoGroup();
        portOfNone();
        portRanges();
        bringNoShape();
        bringAtTheEnds();
        bringTheOnlyOne();
        bringPastTwenty();
        atRange();
        atNothing();
        atFrontmost();
        Due.finish();
    }

    private static DiagramDesk oneShape(int kind, int x, int y, int width, int height) {
        DiagramDesk desk = new DiagramDesk();
        Due.due("addShape", desk.addShape(kind, x, y, width, height), 0);
        return desk;
    }

    private static void inside(DiagramDesk desk, int[]... points) {
        for (int[] p : points) {
            Due.due("at inside " + p[0] + ", " + p[1], desk.at(p[0], p[1]), 0);
        }
    }

    private static void outside(DiagramDesk desk, int[]... points) {
        for (int[] p : points) {
            Due.due("at outside " + p[0] + ", " + p[1], desk.at(p[0], p[1]), NONE);
        }
    }

    // "The constants"
    private static void constants() {
        int[] constants = {BAD, DiagramDesk.STATE, FULL, DiagramDesk.OUTSIDE, NONE};
        int[] want = {-1, -2, -3, -4, -1000000};
        for (int k = 0; k < want.length; k++) {
            Due.due("constant " + k, constants[k], want[k]);
        }
    }

    // "Creates an empty diagram", each object one of its own.
    private static void newObject() {
        States.full();
        for (int k = -1; k <= 20; k++) {
            Due.due("new: shape", new DiagramDesk().shape(k, 0), NONE);
            Due.due("new: connector", new DiagramDesk().length(k), BAD);
            Due.due("new: group", new DiagramDesk().shapesOf(k), BAD);
        }
        Due.due("new: selection", new DiagramDesk().selected(), 0);
        Due.due("new: connectors", new DiagramDesk().connectors(), 0);
        Due.due("new: guides", new DiagramDesk().clearGuides(), 0);
        Due.due("new: grid", new DiagramDesk().setGrid(100), 0);
        Due.due("new: tolerance", new DiagramDesk().setTolerance(50), 5);
        Due.due("new: buffer", new DiagramDesk().clear(), 0);
        Due.due("new: history", new DiagramDesk().undo(), NONE);
        Due.due("new: first shape", new DiagramDesk().addShape(0, 0, 0, 1, 1), 0);
    }

    // "There are at most 20 shapes, numbered from 0"; "FULL if 20 shapes were added already"
    private static void twentyShapes() {
        Edge.act("the twentieth shape", () -> Due.deskWith(19), desk -> desk.addShape(0, 0, 0, 1, 1), 19);
        Edge.still("one more", () -> Due.deskWith(20), desk -> desk.addShape(0, 0, 0, 1, 1), FULL);
        Edge.still("one more to a full desk", States::full, desk -> desk.addShape(2, 1, 2, 3, 4), FULL);
    }

    private static DiagramDesk emptied(int added) {
        DiagramDesk desk = Due.deskWith(added);
        for (int k = 0; k < added; k++) {
            Due.due("removeShape", desk.removeShape(k), 0);
        }
        return desk;
    }

    // "A removed shape leaves its number unused for ever (so that at most 20 can be added in all)"
    private static void unusedForEver() {
        Edge.act("the next number", () -> emptied(1), desk -> desk.addShape(0, 0, 0, 1, 1), 1);
        Edge.act("the last number", () -> emptied(19), desk -> desk.addShape(0, 0, 0, 1, 1), 19);
        Edge.still("no number is left", () -> emptied(20), desk -> desk.addShape(0, 0, 0, 1, 1), FULL);
        Due.due("an empty diagram all the same", emptied(20).fingerprint(), 89 * 31);
    }

    // "kind: 0 to 2"
    private static void kindRange() {
        Edge.range("addShape, kind", States::busy, (desk, k) -> desk.addShape(k, 0, 0, 1, 1), 0, 2, BAD);
        for (int kind = 0; kind <= 2; kind++) {
            Due.due("its kind", oneShape(kind, 0, 0, 1, 1).shape(0, 0), kind);
        }
    }

    // "x: -10000 to 10000", "y: -10000 to 10000"
    private static void placeRanges() {
        Edge.range("addShape, x", States::busy, (desk, k) -> desk.addShape(0, k, 0, 1, 1), -10000, 10000, BAD);
        Edge.range("addShape, y", States::busy, (desk, k) -> desk.addShape(0, 0, k, 1, 1), -10000, 10000, BAD);
        DiagramDesk desk = oneShape(0, -10000, 10000, 1, 1);
        Due.due("its x", desk.shape(0, 1), -10000);
        Due.due("its y", desk.shape(0, 2), 10000);
    }

    // "width: 1 to 500", "height: 1 to 500"
    private static void sizeRanges() {
        Edge.range("addShape, width", States::busy, (desk, k) -> desk.addShape(0, 0, 0, k, 1), 1, 500, BAD);
        Edge.range("addShape, height", States::busy, (desk, k) -> desk.addShape(0, 0, 0, 1, k), 1, 500, BAD);
        DiagramDesk desk = oneShape(0, 0, 0, 1, 500);
        Due.due("its width", desk.shape(0, 3), 1);
        Due.due("its height", desk.shape(0, 4), 500);
    }

    // "BAD if an argument is not in its range; FULL if ..", with "the one listed first is returned"
    private static void badBeforeFull() {
        int[][] wrong = {{3, 0, 0, 1, 1}, {0, 10001, 0, 1, 1}, {0, 0, -10001, 1, 1}, {0, 0, 0, 0, 1},
            {0, 0, 0, 1, 501}};
        for (int[] n : wrong) {
            Edge.still("addShape, wrong and full", States::full,
                    desk -> desk.addShape(n[0], n[1], n[2], n[3], n[4]), BAD);
        }
    }

    // "Adds a shape, which is not selected and in no group", also over selected ones of a group
    private static void newShapeIsApart() {
        DiagramDesk desk = States.busy();
        int selected = desk.selected();
        Due.due("addShape", desk.addShape(0, 0, 0, 40, 20), 8);
        Due.due("the selection stays", desk.selected(), selected);
        Due.due("not selected", desk.shape(8, 5), 0);
        Due.due("in no group", desk.shape(8, 7), NONE);
        Due.due("in no outermost group", desk.shape(8, 8), NONE);
    }

    // "a new shape is in front of all others"; "0 for the one in front of all others"
    private static void newShapeInFront() {
        DiagramDesk desk = Due.deskWith(20);
        for (int k = 0; k < 20; k++) {
            Due.due("depth of " + k, desk.shape(k, 6), 19 - k);
        }
        DiagramDesk brought = Due.deskWith(2);
        brought.bring(0, true);
        brought.addShape(0, 0, 0, 50, 50);
        Due.due("in front of one brought to the front", brought.shape(2, 6), 0);
        Due.due("that one is behind it", brought.shape(0, 6), 1);
        Due.due("at the place of both", brought.at(0, 0), 2);
    }

    // "Its right is x plus the width, its bottom y plus the height": they may lie beyond 10000.
    private static void beyondTheCoordinates() {
        DiagramDesk desk = oneShape(0, 10000, 10000, 500, 500);
        Due.due("right", desk.port(0, 1, 0), 10500);
        Due.due("bottom", desk.port(0, 2, 1), 10500);
        inside(desk, new int[][] {{10500, 10500}, {10000, 10000}});
        outside(desk, new int[][] {{10501, 10500}, {10500, 10501}, {9999, 10000}, {10000, 9999}});
    }

    // "for a box, px is from x to its right, and py from y to its bottom"
    private static void boxBorder() {
        DiagramDesk desk = oneShape(0, -10, -20, 3, 1);
        inside(desk, new int[][] {{-10, -20}, {-7, -20}, {-10, -19}, {-7, -19}});
        outside(desk, new int[][] {{-11, -20}, {-6, -20}, {-10, -21}, {-10, -18}, {-7, -18}, {-6, -19}});
    }

    // "for an ellipse, .. is at most ..": points just on its border and the next ones
    private static void ellipseBorder() {
        DiagramDesk desk = oneShape(1, -5, -5, 10, 10);
        inside(desk, new int[][] {{3, 4}, {-3, 4}, {4, -3}, {-4, -3}, {5, 0}, {-5, 0}, {0, 5}, {0, -5}});
        outside(desk, new int[][] {{4, 4}, {-4, 4}, {3, -5}, {-5, -1}, {6, 0}, {-6, 0}, {0, 6}, {0, -6}});
    }

    private static void smallestEllipse() {
        // a = 1 and b = 1 for each of the four points, and 1 + 1 is more than 1.
        outside(oneShape(1, 0, 0, 1, 1), new int[][] {{0, 0}, {1, 0}, {0, 1}, {1, 1}});
        // a = 0 and b = 1 in the middle: 4 is at most 4.
        DiagramDesk desk = oneShape(1, -1, -1, 2, 1);
        inside(desk, new int[][] {{0, -1}, {0, 0}});
        outside(desk, new int[][] {{-1, -1}, {1, 0}, {0, 1}, {0, -2}});
    }

    // The products pass 2^31 and stay right.
    private static void largestEllipse() {
        DiagramDesk desk = oneShape(1, 10000, -10000, 500, 500);
        inside(desk, new int[][] {{10400, -9550}, {10100, -9950}, {10500, -9750}, {10250, -9500}});
        outside(desk, new int[][] {{10401, -9550}, {10400, -9549}, {10099, -9950}, {10500, -9751}, {10500, -9500}});
    }

    // "for a diamond, .. is at most ..": points just on its border and the next ones
    private static void diamondBorder() {
        DiagramDesk desk = oneShape(2, -5, -5, 10, 10);
        inside(desk, new int[][] {{2, 3}, {-2, 3}, {3, -2}, {-1, -4}, {5, 0}, {-5, 0}, {0, 5}, {0, -5}});
        outside(desk, new int[][] {{3, 3}, {-3, 3}, {3, -3}, {-2, -4}, {5, 1}, {-5, -1}, {6, 0}, {0, -6}});
    }

    private static void smallestDiamond() {
        // 1 + 1 is more than 1.
        outside(oneShape(2, 0, 0, 1, 1), new int[][] {{0, 0}, {1, 0}, {0, 1}, {1, 1}});
        // a = 0 and b = 1 in the middle: 2 is at most 2.
        DiagramDesk desk = oneShape(2, -1, -1, 2, 1);
        inside(desk, new int[][] {{0, -1}, {0, 0}});
        outside(desk, new int[][] {{-1, -1}, {1, 0}, {0, 1}, {0, -2}});
    }

    private static void largestDiamond() {
        DiagramDesk desk = oneShape(2, -10000, 10000, 500, 500);
        inside(desk, new int[][] {{-9625, 10125}, {-9875, 10375}, {-10000, 10250}, {-9750, 10500}});
        outside(desk, new int[][] {{-9624, 10125}, {-9625, 10124}, {-9875, 10376}, {-10000, 10251}, {-9500, 10500}});
    }

    // "any int from -100000 to 100000": the farthest points are not in the farthest shapes.
    private static void farthestPoints() {
        for (int kind = 0; kind <= 2; kind++) {
            for (int width : new int[] {1, 500}) {
                DiagramDesk desk = oneShape(kind, -10000, -10000, width, 501 - width);
                outside(desk, new int[][] {{100000, 100000}, {-100000, 100000}, {100000, -100000}, {-100000, -100000}});
            }
        }
    }

    // "Where something is halved here, it is rounded down", "its center is at x + width / 2 and y + height / 2"
    private static void oddHalves() {
        int[][] want = {{9, 20}, {12, 21}, {9, 23}, {7, 21}};
        DiagramDesk desk = oneShape(0, 7, 20, 5, 3);
        for (int port = 0; port < 4; port++) {
            Due.due("odd size, x of port " + port, desk.port(0, port, 0), want[port][0]);
            Due.due("odd size, y of port " + port, desk.port(0, port, 1), want[port][1]);
        }
    }

    private static void negativeHalves() {
        int[][] want = {{-5, -4}, {-2, -3}, {-5, -1}, {-7, -3}};
        DiagramDesk desk = oneShape(0, -7, -4, 5, 3);
        for (int port = 0; port < 4; port++) {
            Due.due("negative place, x of port " + port, desk.port(0, port, 0), want[port][0]);
            Due.due("negative place, y of port " + port, desk.port(0, port, 1), want[port][1]);
        }
        DiagramDesk small = oneShape(0, -1, -10000, 1, 1);
        Due.due("the center of the smallest one", small.port(0, 0, 0), -1);
        Due.due("the center of the smallest one", small.port(0, 1, 1), -10000);
    }

    // removeShape: "BAD if there is no such shape"
    private static void removeNoShape() {
        Edge.noShape("removeShape", (desk, k) -> desk.removeShape(k), BAD);
    }

    private static void removeFirstAndLast() {
        Edge.act("removeShape of the first", States::busy, desk -> desk.removeShape(0), 1);
        Edge.act("removeShape of the last", States::busy, desk -> desk.removeShape(7), 1);
        Edge.act("removeShape of the first of 20", States::full, desk -> desk.removeShape(0), 2);
        Edge.act("removeShape of the last of 20", States::full, desk -> desk.removeShape(19), 2);
        Edge.act("removeShape of the only one", () -> Due.deskWith(1), desk -> desk.removeShape(0), 0);
    }

    // "Returns the number of connectors that are removed with it": none, some, all of 20
    private static void removeWithConnectors() {
        Edge.act("removeShape without connectors", States::busy, desk -> desk.removeShape(6), 0);
        Edge.act("removeShape with two", States::busy, desk -> desk.removeShape(5), 2);
        DiagramDesk star = Due.deskWith(2);
        for (int k = 0; k < 20; k++) {
            star.connect(k % 2, 0, 1 - k % 2, 0, 0);
        }
        Due.due("removeShape with all 20", star.removeShape(1), 20);
        Due.due("none is left", star.connectors(), 0);
    }

    // "Removes a shape, also from its group and from the selection"
    private static void removeFromGroupAndSelection() {
        DiagramDesk desk = States.busy();
        int selected = desk.selected();
        Due.due("removeShape of a selected member", desk.removeShape(3), 1);
        Due.due("its group", desk.shapesOf(1), 3);
        Due.due("the selection", desk.selected(), selected & ~8);
        Due.due("removeShape of one that is not selected", desk.removeShape(7), 1);
        Due.due("the selection stays", desk.selected(), selected & ~8);
        Due.due("removeShape of the last selected one", States.chosen(new int[] {0, 0}).removeShape(0), 0);
    }

    // The places in depth close up behind a removed shape, be it in front, between or behind.
    private static void removeInDepth() {
        int[][] want = {{NONE, 2, 1, 0}, {2, NONE, 1, 0}, {2, 1, 0, NONE}};
        int[] removed = {0, 1, 3};
        for (int k = 0; k < removed.length; k++) {
            DiagramDesk desk = Due.deskWith(4);
            desk.removeShape(removed[k]);
            for (int shape = 0; shape < 4; shape++) {
                Due.due("depth of " + shape + " without " + removed[k], desk.shape(shape, 6), want[k][shape]);
            }
        }
    }

    // resize: "BAD if there is no such shape"
    private static void resizeNoShape() {
        Edge.noShape("resize", (desk, k) -> desk.resize(k, 5, 5), BAD);
    }

    // resize: "or an argument is not in its range"
    private static void resizeRanges() {
        Edge.range("resize, width", States::busy, (desk, k) -> desk.resize(0, k, 5), 1, 500, BAD);
        Edge.range("resize, height", States::busy, (desk, k) -> desk.resize(0, 5, k), 1, 500, BAD);
        DiagramDesk desk = oneShape(0, 0, 0, 7, 7);
        desk.resize(0, 500, 1);
        Due.due("its width", desk.shape(0, 3), 500);
        Due.due("its height", desk.shape(0, 4), 1);
    }

    // "its left and its top stay", also where the right and the bottom come far beyond the coordinates
    private static void resizeStays() {
        DiagramDesk desk = oneShape(1, 10000, 10000, 1, 1);
        Due.due("resize at the end", desk.resize(0, 500, 500), 0);
        Due.due("its left", desk.shape(0, 1), 10000);
        Due.due("its top", desk.shape(0, 2), 10000);
        Due.due("its right", desk.port(0, 1, 0), 10500);
        Edge.act("resize to the same size", States::busy, d -> d.resize(0, 40, 20), 1);
    }

    // "Returns the number of connectors that have a port of this shape": none, some, all of 20
    private static void resizeCounts() {
        Edge.act("resize without connectors", States::busy, desk -> desk.resize(6, 1, 1), 0);
        Edge.act("resize with two", States::busy, desk -> desk.resize(1, 1, 1), 2);
        DiagramDesk star = Due.deskWith(3);
        for (int k = 0; k < 20; k++) {
            star.connect(k % 2, k % 4, 1 - k % 2, 0, 0);
        }
        Due.due("resize with all 20", star.resize(1, 9, 9), 20);
        Due.due("resize of another one", star.resize(2, 9, 9), 0);
    }

    // shape: "NONE if there is no such shape"
    private static void shapeOfNone() {
        for (int what = 0; what <= 8; what++) {
            int asked = what;
            Edge.noShape("shape, what " + what, (desk, k) -> desk.shape(k, asked), NONE);
        }
    }

    // shape: "or what is not in its range"
    private static void whatRange() {
        Edge.none("shape, what", States::busy, (desk, k) -> desk.shape(0, k), NONE, -1, 9, Integer.MIN_VALUE,
                Integer.MAX_VALUE);
        int[] want = {0, 0, 0, 40, 20, 1, 6, 0, 1};
        for (int what = 0; what <= 8; what++) {
            int asked = what;
            Edge.still("shape, what " + what, States::busy, desk -> desk.shape(0, asked), want[what]);
        }
    }

    // "for 7 and 8 NONE if it is in no group"
    private static void inNoGroup() {
        Edge.still("shape 7 of one alone", States::busy, desk -> desk.shape(6, 7), NONE);
        Edge.still("shape 8 of one alone", States::busy, desk -> desk.shape(6, 8), NONE);
        Edge.still("shape 7 in group 0", States::busy, desk -> desk.shape(1, 7), 0);
        Edge.still("shape 7 in the outermost", States::busy, desk -> desk.shape(3, 7), 1);
        Edge.still("shape 8 in the outermost", States::busy, desk -> desk.shape(3, 8), 1);
        Edge.still("shape 7 in the last group of 8", States::full, desk -> desk.shape(15, 7), 7);
    }

    // port: "NONE if there is no such shape"
    private static void portOfNone() {
        Edge.noShape("port", (desk, k) -> desk.port(k, 0, 0), NONE);
    }

    // port: "no such .. port or axis"
    private static void portRanges() {
        Edge.range("port", States::busy, (desk, k) -> desk.port(1, k, 1), 0, 3, NONE);
        Edge.range("port, axis", States::busy, (desk, k) -> desk.port(1, 3, k), 0, 1, NONE);
    }

    // bring: "BAD if there is no such shape"
    private static void bringNoShape() {
        Edge.noShape("bring to the front", (desk, k) -> desk.bring(k, true), BAD);
        Edge.noShape("bring to the back", (desk, k) -> desk.bring(k, false), BAD);
    }

    private static void bringAtTheEnds() {
        Edge.act("bring the front one to the front", States::busy, desk -> desk.bring(7, true), 0);
        Edge.act("bring the back one to the back", States::busy, desk -> desk.bring(0, false), 6);
        DiagramDesk desk = States.busy();
        long before = desk.fingerprint();
        desk.bring(7, true);
        desk.bring(0, false);
        Due.due("all as it was", desk.fingerprint(), before);
    }

    private static void bringTheOnlyOne() {
        Edge.act("bring the only one to the front", () -> Due.deskWith(1), desk -> desk.bring(0, true), 0);
        Edge.act("bring the only one to the back", () -> Due.deskWith(1), desk -> desk.bring(0, false), 0);
    }

    // "Returns its previous place in depth": 19 and 0 of 20
    private static void bringPastTwenty() {
        DiagramDesk desk = Due.deskWith(20);
        Due.due("bring the last to the front", desk.bring(0, true), 19);
        Due.due("now in front", desk.shape(0, 6), 0);
        for (int k = 1; k < 20; k++) {
            Due.due("one farther back", desk.shape(k, 6), 20 - k);
        }
        Due.due("and to the back", desk.bring(0, false), 0);
        for (int k = 0; k < 20; k++) {
            Due.due("as before", desk.shape(k, 6), 19 - k);
        }
    }

    // at: "BAD if an argument is not in its range"
    private static void atRange() {
        Edge.range("at, x", States::busy, (desk, k) -> desk.at(k, 0), -100000, 100000, BAD);
        Edge.range("at, y", States::busy, (desk, k) -> desk.at(0, k), -100000, 100000, BAD);
        Edge.range("at, x on an empty desk", DiagramDesk::new, (desk, k) -> desk.at(k, 0), -100000, 100000, BAD);
        for (int far : new int[] {-100000, 100000}) {
            Edge.still("at far to the side", States::busy, desk -> desk.at(far, 0), NONE);
            Edge.still("at far up or down", States::busy, desk -> desk.at(0, far), NONE);
        }
    }

    // at: "NONE if there is none"
    private static void atNothing() {
        Edge.still("at on an empty desk", DiagramDesk::new, desk -> desk.at(0, 0), NONE);
        Edge.still("at beside all", States::busy, desk -> desk.at(-1, -1), NONE);
        Edge.still("at where all were removed", () -> emptied(20), desk -> desk.at(0, 0), NONE);
    }

    // at: "Returns the frontmost shape that contains the point", of all 20 there
    private static void atFrontmost() {
        DiagramDesk desk = new DiagramDesk();
        for (int k = 0; k < 20; k++) {
            desk.addShape(k % 3, 0, 0, 50, 50);
        }
        Due.due("the last one", desk.at(25, 25), 19);
        Due.due("the last box, at a corner", desk.at(0, 0), 18);
        desk.bring(0, true);
        Due.due("the first one", desk.at(25, 25), 0);
        Due.due("at its corner too", desk.at(50, 50), 0);
    }
}
