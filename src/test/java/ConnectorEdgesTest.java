/** Each sentence on connectors (CONNECTORS, promises 9 to 14) that names a boundary case, with a test of its own. */
public final class ConnectorEdgesTest {
    private static final int BAD = DiagramDesk.BAD;
    private static final int FULL = DiagramDesk.FULL;
    private static final int NONE = DiagramDesk.NONE;

    public static void main(String[] args) {
        twentyConnectors();
        oneIsFreeAgain();
        laterOnesGetLess();
        noEnds();
        anotherShape();
        portRanges();
        styleRange();
        badBeforeFull();
        severalBetweenTheSame();
        removedWithTheShape();
        disconnectNone();
        disconnectEnds();
        countConnectors();
        pointOfNone();
        pointAxis();
        pointIndex();
        oneBend();
        twoBends();
        oddHalves();
        lengthOfNone();
        lengthEnds();
        throughNone();
        notAtItsEnds();
        firstAndLastShape();
        levelBorders();
        uprightBorders();
        cornersOfSlanted();
        betweenTheIntegers();
        endsOfSlanted();
        pointWithoutLength();
        eachPart();
        rectangleOfRoundOnes();
        Due.finish();
    }

    private static DiagramDesk connected(int connectors) {
        DiagramDesk desk = Due.deskWith(3);
        for (int k = 0; k < connectors; k++) {
            Due.due("connect", desk.connect(0, 1, 1 + k % 2, 3, k % 3), k);
        }
        return desk;
    }

    // "There are at most 20 connectors at the same time, numbered from 0"; "FULL if there are 20 connectors"
    private static void twentyConnectors() {
        Edge.act("the first connector", () -> connected(0), desk -> desk.connect(0, 0, 1, 0, 0), 0);
        Edge.act("the twentieth", () -> connected(19), desk -> desk.connect(0, 0, 1, 0, 0), 19);
        Edge.still("one more", () -> connected(20), desk -> desk.connect(0, 0, 1, 0, 0), FULL);
        Edge.still("one more on a full desk", States::full, desk -> desk.connect(19, 3, 0, 3, 2), FULL);
    }

    // "at the same time"
    private static void oneIsFreeAgain() {
        DiagramDesk desk = connected(20);
        Due.due("disconnect", desk.disconnect(0), 19);
        Due.due("room for one", desk.connect(2, 0, 1, 0, 0), 19);
        Due.due("and no more", desk.connect(2, 0, 1, 0, 0), FULL);
        Due.due("removeShape", desk.removeShape(2), 11);
        Due.due("room for more", desk.connect(1, 0, 0, 0, 0), 9);
    }

    private static void starts(String name, DiagramDesk desk, int... want) {
        Due.due(name + ": connectors", desk.connectors(), want.length);
        for (int k = 0; k < want.length; k++) {
            Due.due(name + ": start of " + k, desk.point(k, 0, 0), want[k]);
        }
        Due.due(name + ": no more", desk.point(want.length, 0, 0), NONE);
    }

    /** The starts of the connectors are at x = 50, 150, 250 and 350. */
    private static DiagramDesk row() {
        DiagramDesk desk = Due.deskWith(4);
        for (int k = 0; k < 4; k++) {
            desk.connect(k, 1, (k + 1) % 4, 3, 0);
        }
        return desk;
    }

    // "when one is removed, the later ones get numbers less by 1": the first, one between, the last
    private static void laterOnesGetLess() {
        DiagramDesk desk = row();
        Due.due("disconnect the first", desk.disconnect(0), 3);
        starts("without the first", desk, 150, 250, 350);
        desk = row();
        Due.due("disconnect one between", desk.disconnect(2), 3);
        starts("without one between", desk, 50, 150, 350);
        desk = row();
        Due.due("disconnect the last", desk.disconnect(3), 3);
        starts("without the last", desk, 50, 150, 250);
        DiagramDesk full = States.full();
        Due.due("disconnect the last of 20", full.disconnect(19), 19);
        Due.due("disconnect the first of 19", full.disconnect(0), 18);
    }

    // connect: "from: a shape", "to: another shape"
    private static void noEnds() {
        Edge.noShape("connect, from", (desk, k) -> desk.connect(k, 0, 0, 0, 0), BAD);
        Edge.noShape("connect, to", (desk, k) -> desk.connect(0, 0, k, 0, 0), BAD);
        Edge.none("connect, both", States::busy, (desk, k) -> desk.connect(k, 0, k, 1, 0), BAD, -1, 2, 20);
    }

    private static void anotherShape() {
        Edge.still("connect with itself", States::busy, desk -> desk.connect(0, 0, 0, 1, 0), BAD);
        Edge.still("connect the same port", States::busy, desk -> desk.connect(7, 2, 7, 2, 1), BAD);
    }

    // "fromPort: 0 to 3", "toPort: 0 to 3"
    private static void portRanges() {
        Edge.range("connect, fromPort", States::busy, (desk, k) -> desk.connect(0, k, 1, 0, 0), 0, 3, BAD);
        Edge.range("connect, toPort", States::busy, (desk, k) -> desk.connect(0, 0, 1, k, 0), 0, 3, BAD);
    }

    // "style: 0 to 2"
    private static void styleRange() {
        Edge.range("connect, style", States::busy, (desk, k) -> desk.connect(0, 0, 1, 0, k), 0, 2, BAD);
    }

    // "BAD if an argument is not as described; FULL if ..", with "the one listed first is returned"
    private static void badBeforeFull() {
        int[][] wrong = {{20, 0, 1, 0, 0}, {0, 4, 1, 0, 0}, {0, 0, -1, 0, 0}, {0, 0, 0, 0, 0}, {0, 0, 1, -1, 0},
            {0, 0, 1, 0, 3}};
        for (int[] n : wrong) {
            Edge.still("connect, wrong and full", States::full,
                    desk -> desk.connect(n[0], n[1], n[2], n[3], n[4]), BAD);
        }
    }

    // "there can be several between the same ports"
    private static void severalBetweenTheSame() {
        Edge.act("connect once more", States::busy, desk -> desk.connect(0, 1, 1, 3, 0), 4);
        Edge.act("connect the other way", States::busy, desk -> desk.connect(1, 3, 0, 1, 0), 4);
    }

    // "When a shape is removed, its connectors are removed, too"
    private static void removedWithTheShape() {
        DiagramDesk desk = row();
        Due.due("removeShape at the first and the last", desk.removeShape(0), 2);
        starts("removeShape at the first and the last", desk, 150, 250);
        Due.due("removeShape at both of them", desk.removeShape(2), 2);
        starts("removeShape at both of them", desk);
    }

    // disconnect: "BAD if there is no such connector"
    private static void disconnectNone() {
        Edge.noConnector("disconnect", (desk, k) -> desk.disconnect(k), BAD);
    }

    // "Returns the number of connectors then": down to 0
    private static void disconnectEnds() {
        Edge.act("disconnect the first", States::busy, desk -> desk.disconnect(0), 3);
        Edge.act("disconnect the last", States::busy, desk -> desk.disconnect(3), 3);
        Edge.act("disconnect the only one", () -> connected(1), desk -> desk.disconnect(0), 0);
        Edge.act("disconnect one of 20", States::full, desk -> desk.disconnect(19), 19);
    }

    private static void countConnectors() {
        Edge.still("connectors, none", DiagramDesk::new, desk -> desk.connectors(), 0);
        Edge.still("connectors, some", States::busy, desk -> desk.connectors(), 4);
        Edge.still("connectors, all", States::full, desk -> desk.connectors(), 20);
    }

    // point: "NONE if there is no such connector"
    private static void pointOfNone() {
        Edge.noConnector("point", (desk, k) -> desk.point(k, 0, 0), NONE);
    }

    // point: "no such .. axis"
    private static void pointAxis() {
        Edge.range("point, axis", States::busy, (desk, k) -> desk.point(0, 0, k), 0, 1, NONE);
    }

    // point: "the index of the point, from 0": two, three and four points
    private static void pointIndex() {
        for (int style = 0; style <= 2; style++) {
            int connector = style;
            Edge.range("point of style " + style, () -> connected(3), (desk, k) -> desk.point(connector, k, 0),
                    0, style + 1, NONE);
            Edge.range("point of style " + style, () -> connected(3), (desk, k) -> desk.point(connector, k, 1),
                    0, style + 1, NONE);
        }
    }

    /** A connector with all its points, from each of the four ports of a box to the top of another one. */
    private static void bends(int style, int[][][] want) {
        for (int port = 0; port < 4; port++) {
            DiagramDesk desk = new DiagramDesk();
            desk.addShape(0, 0, 0, 20, 10);
            desk.addShape(0, 100, 200, 20, 30);
            desk.connect(0, port, 1, 0, style);
            for (int k = 0; k < want[port].length; k++) {
                Due.due("style " + style + ", port " + port + ", x of " + k, desk.point(0, k, 0), want[port][k][0]);
                Due.due("style " + style + ", port " + port + ", y of " + k, desk.point(0, k, 1), want[port][k][1]);
            }
        }
    }

    // "for style 1 (bx, ay) if the first port has the number 1 or 3, and (ax, by) otherwise"
    private static void oneBend() {
        bends(1, new int[][][] {{{10, 0}, {10, 200}, {110, 200}}, {{20, 5}, {110, 5}, {110, 200}},
            {{10, 10}, {10, 200}, {110, 200}}, {{0, 5}, {110, 5}, {110, 200}}});
    }

    // "for style 2, if the first port has the number 1 or 3, (m, ay) and (m, by) .., and otherwise (ax, m) and (bx, m)"
    private static void twoBends() {
        bends(2, new int[][][] {{{10, 0}, {10, 100}, {110, 100}, {110, 200}}, {{20, 5}, {65, 5}, {65, 200}, {110, 200}},
            {{10, 10}, {10, 105}, {110, 105}, {110, 200}}, {{0, 5}, {55, 5}, {55, 200}, {110, 200}}});
    }

    // "m = (ax + bx) / 2 .. m = (ay + by) / 2", "rounded down (also for negative numbers)"
    private static void oddHalves() {
        DiagramDesk desk = new DiagramDesk();
        desk.addShape(0, -4, -4, 1, 1);
        desk.addShape(0, 0, 0, 1, 1);
        desk.addShape(0, 10000, 10000, 500, 500);
        desk.connect(0, 1, 1, 3, 2);
        desk.connect(0, 2, 1, 0, 2);
        desk.connect(1, 3, 0, 1, 2);
        desk.connect(1, 1, 2, 1, 2);
        desk.connect(1, 0, 0, 0, 2);
        Due.due("half of -3 and 0", desk.point(0, 1, 0), -2);
        Due.due("half of -3 and 0, the next point", desk.point(0, 2, 0), -2);
        Due.due("half of -3 and 0, y", desk.point(1, 1, 1), -2);
        Due.due("half of -3 and 0, y, the next point", desk.point(1, 2, 1), -2);
        Due.due("half of 0 and -3", desk.point(2, 1, 0), -2);
        Due.due("half of 1 and 10500", desk.point(3, 1, 0), 5250);
        Due.due("half of 0 and -4", desk.point(4, 1, 1), -2);
    }

    // length: "BAD if there is no such connector"
    private static void lengthOfNone() {
        Edge.noConnector("length", (desk, k) -> desk.length(k), BAD);
    }

    private static void lengthEnds() {
        for (int style = 0; style <= 2; style++) {
            DiagramDesk touching = new DiagramDesk();
            touching.addShape(0, 0, 0, 10, 10);
            touching.addShape(0, 10, 0, 10, 10);
            touching.connect(0, 1, 1, 3, style);
            Due.due("length of a point, style " + style, touching.length(0), 0);
            DiagramDesk far = new DiagramDesk();
            far.addShape(0, -10000, -10000, 1, 1);
            far.addShape(0, 10000, 10000, 500, 500);
            far.connect(0, 3, 1, 2, style);
            Due.due("the largest length, style " + style, far.length(0), 20250 + 20500);
        }
    }

    // through: "BAD if there is no such connector"
    private static void throughNone() {
        Edge.noConnector("through", (desk, k) -> desk.through(k), BAD);
        Edge.still("through no shape at all", () -> connected(1), desk -> desk.through(0), 0);
    }

    // "a shape that is not at one of its ends"
    private static void notAtItsEnds() {
        DiagramDesk desk = new DiagramDesk();
        desk.addShape(0, 0, 0, 10, 10);
        desk.addShape(0, 100, 0, 10, 10);
        desk.connect(0, 3, 1, 1, 0);
        desk.connect(1, 1, 0, 3, 2);
        Due.due("through both its ends", desk.through(0), 0);
        Due.due("through both its ends, the other way", desk.through(1), 0);
        desk.addShape(0, 0, 0, 10, 10);
        Due.due("but another one at the same place", desk.through(0), 4);
    }

    // "the set, bit k for shape k": shape 0 and shape 19
    private static void firstAndLastShape() {
        DiagramDesk desk = new DiagramDesk();
        desk.addShape(0, 40, 0, 10, 10);
        desk.addShape(0, 0, 0, 10, 10);
        desk.addShape(0, 100, 0, 10, 10);
        desk.connect(1, 1, 2, 3, 0);
        for (int k = 3; k < 19; k++) {
            desk.addShape(0, 40, 500, 10, 10);
        }
        desk.addShape(0, 60, 0, 10, 10);
        Due.due("the first and the last shape", desk.through(0), 1 | 1 << 19);
        desk.removeShape(0);
        Due.due("the last shape", desk.through(0), 1 << 19);
    }

    /** Whether a straight connector from (ax, ay) to (bx, by) runs through a box. */
    private static void runs(int[] line, int[] box, boolean want) {
        DiagramDesk desk = new DiagramDesk();
        boolean upright = line[0] == line[2] && line[1] != line[3];
        // The ends lie beside the line, so that they never stand in the way.
        int fromPort = upright ? (line[1] < line[3] ? 2 : 0) : line[0] <= line[2] ? 1 : 3;
        int toPort = upright ? (line[1] < line[3] ? 0 : 2) : line[0] <= line[2] ? 3 : 1;
        end(desk, line[0], line[1], fromPort);
        end(desk, line[2], line[3], toPort);
        desk.addShape(0, box[0], box[1], box[2], box[3]);
        String name = "line " + line[0] + ", " + line[1] + " to " + line[2] + ", " + line[3] + ", box " + box[0] + ", "
                + box[1] + ", " + box[2] + ", " + box[3];
        for (int style = 0; style < 3; style++) {
            // With bends only a level or upright line stays one.
            if (style == 0 || line[0] == line[2] || line[1] == line[3]) {
                int there = desk.connect(0, fromPort, 1, toPort, style);
                int back = desk.connect(1, toPort, 0, fromPort, style);
                Due.due(name + ", start", desk.point(there, 0, 0), line[0]);
                Due.due(name + ", start", desk.point(there, 0, 1), line[1]);
                Due.due(name + ", end", desk.point(back, 0, 0), line[2]);
                Due.due(name + ", end", desk.point(back, 0, 1), line[3]);
                Due.due(name, desk.through(there), want ? 4 : 0);
                Due.due(name + ", back", desk.through(back), want ? 4 : 0);
            }
        }
    }

    /** A box of 2 by 2 that has its port there. */
    private static void end(DiagramDesk desk, int x, int y, int port) {
        int[][] corners = {{-1, 0}, {-2, -1}, {-1, -2}, {0, -1}};
        desk.addShape(0, x + corners[port][0], y + corners[port][1], 2, 2);
    }

    // "with the inside of the rectangle of the shape (.. without its border)", for a level line
    private static void levelBorders() {
        int[] line = {10, 5, 100, 5};
        runs(line, new int[] {40, 5, 10, 10}, false);
        runs(line, new int[] {40, 4, 10, 10}, true);
        runs(line, new int[] {40, -5, 10, 10}, false);
        runs(line, new int[] {40, -4, 10, 10}, true);
        runs(line, new int[] {100, 0, 10, 10}, false);
        runs(line, new int[] {99, 0, 10, 10}, true);
        runs(line, new int[] {0, 0, 10, 10}, false);
        runs(line, new int[] {1, 0, 10, 10}, true);
        runs(line, new int[] {40, 4, 1, 2}, true);
        runs(line, new int[] {40, 5, 1, 1}, false);
        runs(line, new int[] {40, 4, 1, 1}, false);
        runs(line, new int[] {-100, -100, 500, 500}, true);
    }

    private static void uprightBorders() {
        int[] line = {-5, -100, -5, -10};
        runs(line, new int[] {-5, -50, 10, 10}, false);
        runs(line, new int[] {-6, -50, 10, 10}, true);
        runs(line, new int[] {-15, -50, 10, 10}, false);
        runs(line, new int[] {-14, -50, 10, 10}, true);
        runs(line, new int[] {-10, -10, 10, 10}, false);
        runs(line, new int[] {-10, -11, 10, 10}, true);
        runs(line, new int[] {-10, -110, 10, 10}, false);
        runs(line, new int[] {-10, -109, 10, 10}, true);
        runs(line, new int[] {-6, -50, 2, 1}, true);
        runs(line, new int[] {-6, -50, 1, 1}, false);
    }

    // A corner that is touched belongs to the border, on both sides of both slants.
    private static void cornersOfSlanted() {
        int[] down = {0, 0, 100, 50};
        runs(down, new int[] {50, 15, 10, 10}, false);
        runs(down, new int[] {49, 15, 10, 10}, true);
        runs(down, new int[] {50, 16, 10, 10}, true);
        runs(down, new int[] {40, 25, 10, 10}, false);
        runs(down, new int[] {41, 25, 10, 10}, true);
        runs(down, new int[] {40, 24, 10, 10}, true);
        int[] up = {0, 0, 100, -50};
        runs(up, new int[] {50, -25, 10, 10}, false);
        runs(up, new int[] {49, -25, 10, 10}, true);
        runs(up, new int[] {50, -26, 10, 10}, true);
        runs(up, new int[] {40, -35, 10, 10}, false);
        runs(up, new int[] {41, -35, 10, 10}, true);
        runs(up, new int[] {40, -34, 10, 10}, true);
    }

    // "a point (of any coordinates, not only integers)"
    private static void betweenTheIntegers() {
        int[] line = {3000, -5000, 3003, -4998};
        runs(line, new int[] {3001, -5000, 1, 1}, true);
        runs(line, new int[] {3001, -4999, 1, 1}, true);
        runs(line, new int[] {3000, -4999, 1, 1}, false);
        runs(line, new int[] {3002, -5000, 1, 1}, false);
        runs(new int[] {0, 0, 1, 1}, new int[] {0, 0, 1, 1}, true);
        runs(new int[] {0, 0, 1, -1}, new int[] {0, -1, 1, 1}, true);
        runs(new int[] {0, 0, 1, 1}, new int[] {1, 0, 1, 1}, false);
        runs(new int[] {-9990, -9999, 9990, -9998}, new int[] {0, -9999, 1, 1}, true);
        runs(new int[] {-9990, -9999, 9990, -9998}, new int[] {0, -10000, 1, 1}, false);
    }

    // A part ends at its points: behind them it runs through nothing, and its end may be inside.
    private static void endsOfSlanted() {
        int[] line = {0, 0, 100, 50};
        runs(line, new int[] {101, 50, 10, 10}, false);
        runs(line, new int[] {100, 50, 10, 10}, false);
        runs(line, new int[] {100, 45, 10, 10}, false);
        runs(line, new int[] {95, 50, 10, 10}, false);
        runs(line, new int[] {99, 49, 10, 10}, true);
        runs(line, new int[] {-10, -10, 10, 10}, false);
        runs(line, new int[] {-9, -9, 10, 10}, true);
        runs(line, new int[] {30, 10, 40, 30}, true);
        // Inside the box of the line, but beside the line.
        runs(line, new int[] {60, 0, 30, 30}, false);
    }

    // "a part without length is a point"
    private static void pointWithoutLength() {
        int[] point = {10, 5, 10, 5};
        runs(point, new int[] {9, 4, 2, 2}, true);
        runs(point, new int[] {10, 4, 2, 2}, false);
        runs(point, new int[] {8, 4, 2, 2}, false);
        runs(point, new int[] {9, 5, 2, 2}, false);
        runs(point, new int[] {9, 3, 2, 2}, false);
        runs(point, new int[] {10, 5, 2, 2}, false);
        runs(point, new int[] {20, 20, 2, 2}, false);
        runs(point, new int[] {-100, -100, 500, 500}, true);
    }

    // "if a part of it has a point ..": the first part alone, one between, the last part alone, none
    private static void eachPart() {
        int[][] boxes = {{30, 4, 10, 10}, {64, 90, 10, 10}, {90, 195, 10, 10}, {30, 90, 10, 10}};
        for (int box = 0; box < 4; box++) {
            DiagramDesk desk = new DiagramDesk();
            desk.addShape(0, 0, 0, 20, 10);
            desk.addShape(0, 100, 200, 20, 30);
            desk.addShape(0, boxes[box][0], boxes[box][1], boxes[box][2], boxes[box][3]);
            desk.connect(0, 1, 1, 0, 2);
            Due.due("through, part " + box, desk.through(0), box < 3 ? 4 : 0);
        }
        boxes = new int[][] {{30, 4, 10, 10}, {105, 90, 10, 10}, {30, 90, 10, 10}};
        for (int box = 0; box < 3; box++) {
            DiagramDesk desk = new DiagramDesk();
            desk.addShape(0, 0, 0, 20, 10);
            desk.addShape(0, 100, 200, 20, 30);
            desk.addShape(0, boxes[box][0], boxes[box][1], boxes[box][2], boxes[box][3]);
            desk.connect(0, 1, 1, 0, 1);
            Due.due("through with one bend, part " + box, desk.through(0), box < 2 ? 4 : 0);
        }
    }

    // "the inside of the rectangle of the shape", of whatever kind
    private static void rectangleOfRoundOnes() {
        for (int kind = 0; kind <= 2; kind++) {
            DiagramDesk desk = new DiagramDesk();
            desk.addShape(0, 0, 0, 10, 10);
            desk.addShape(0, 100, 0, 10, 10);
            desk.addShape(kind, 30, 4, 50, 50);
            desk.connect(0, 1, 1, 3, 0);
            Due.due("just below the top of kind " + kind, desk.through(0), 4);
            Due.due("where a box alone is", desk.at(31, 5), kind == 0 ? 2 : NONE);
        }
    }
}
