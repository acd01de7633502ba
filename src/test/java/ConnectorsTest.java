/** Promises 9 to 14: connect, disconnect, connectors, point, length, through. */
public final class ConnectorsTest {
    private static final int NONE = DiagramDesk.NONE;
    private static final int[] OUT_OF_RANGE = {Integer.MIN_VALUE, -1, 3, 20, 32, Integer.MAX_VALUE};

    public static void main(String[] args) {
        connect();
        disconnect();
        points();
        halves();
        length();
        through();
        throughSlanted();
        throughShort();
        throughFirst();
        throughCorners();
        Due.finish();
    }

    private static void connect() {
        DiagramDesk desk = Due.deskWith(3);
        int[][] wrong = {{0, 0, 0, 1, 0}, {0, -1, 1, 0, 0}, {0, 4, 1, 0, 0}, {0, 0, 1, -1, 0}, {0, 0, 1, 4, 0},
            {0, 0, 1, 0, -1}, {0, 0, 1, 0, 3}, {3, 0, 1, 0, 0}, {0, 0, 3, 0, 0}, {-1, 0, 1, 0, 0}, {0, 0, 20, 0, 0},
            {Integer.MIN_VALUE, 0, 1, 0, 0}, {0, 0, Integer.MAX_VALUE, 0, 0}};
        for (int[] n : wrong) {
            Due.due("connect, wrong", desk.connect(n[0], n[1], n[2], n[3], n[4]), -1);
        }
        desk.removeShape(2);
        Due.due("connect a removed shape", desk.connect(0, 0, 2, 0, 0), -1);
        for (int k = 0; k < 20; k++) {
            Due.due("connect", desk.connect(0, 0, 1, 0, 0), k);
        }
        Due.due("connectors", desk.connectors(), 20);
        Due.due("connect: full", desk.connect(1, 0, 0, 0, 0), -3);
        Due.due("connect: BAD before FULL", desk.connect(1, 0, 1, 0, 0), -1);
        Due.due("disconnect one", desk.disconnect(7), 19);
        Due.due("connect again", desk.connect(1, 0, 0, 0, 0), 19);
    }

    private static void disconnect() {
        DiagramDesk desk = Due.deskWith(3);
        desk.connect(0, 1, 1, 3, 0);
        desk.connect(1, 1, 2, 3, 1);
        desk.connect(2, 1, 0, 2, 2);
        for (int k : OUT_OF_RANGE) {
            Due.due("disconnect none", desk.disconnect(k), -1);
        }
        Due.due("disconnect the middle", desk.disconnect(1), 2);
        Due.due("disconnect: the first stays", desk.point(0, 0, 0), 50);
        Due.due("disconnect: the last moves up", desk.point(1, 0, 0), 250);
        Due.due("disconnect: with its first port", desk.point(1, 0, 1), 25);
        Due.due("disconnect: with its style", desk.point(1, 3, 0), 25);
        Due.due("disconnect: with its second port", desk.point(1, 3, 1), 50);
        Due.due("disconnect: number 2 is gone", desk.point(2, 0, 0), NONE);
        Due.due("disconnect", desk.disconnect(0), 1);
        Due.due("disconnect", desk.disconnect(0), 0);
        Due.due("disconnect of none", desk.disconnect(0), -1);
    }

    private static void points(DiagramDesk desk, int fromPort, int style, int[][] want) {
        int c = desk.connect(0, fromPort, 1, 0, style);
        for (int k = 0; k < want.length; k++) {
            Due.due("point x " + k + " of port " + fromPort + ", style " + style, desk.point(c, k, 0), want[k][0]);
            Due.due("point y " + k + " of port " + fromPort + ", style " + style, desk.point(c, k, 1), want[k][1]);
        }
        Due.due("point: one more", desk.point(c, want.length, 0), NONE);
        Due.due("point -1", desk.point(c, -1, 0), NONE);
        Due.due("point: axis 2", desk.point(c, 0, 2), NONE);
        Due.due("point: axis -1", desk.point(c, 0, -1), NONE);
    }

    /** The ports of shape 0 are (10, 0), (20, 5), (10, 10) and (0, 5), the first one of shape 1 is (110, 200). */
    private static void points() {
        DiagramDesk desk = new DiagramDesk();
        desk.addShape(0, 0, 0, 20, 10);
        desk.addShape(2, 100, 200, 20, 30);
        points(desk, 0, 0, new int[][] {{10, 0}, {110, 200}});
        points(desk, 0, 1, new int[][] {{10, 0}, {10, 200}, {110, 200}});
        points(desk, 1, 1, new int[][] {{20, 5}, {110, 5}, {110, 200}});
        points(desk, 2, 1, new int[][] {{10, 10}, {10, 200}, {110, 200}});
        points(desk, 3, 1, new int[][] {{0, 5}, {110, 5}, {110, 200}});
        points(desk, 0, 2, new int[][] {{10, 0}, {10, 100}, {110, 100}, {110, 200}});
        points(desk, 1, 2, new int[][] {{20, 5}, {65, 5}, {65, 200}, {110, 200}});
        points(desk, 2, 2, new int[][] {{10, 10}, {10, 105}, {110, 105}, {110, 200}});
        points(desk, 3, 2, new int[][] {{0, 5}, {55, 5}, {55, 200}, {110, 200}});
        for (int c : new int[] {Integer.MIN_VALUE, -1, 9, 20, Integer.MAX_VALUE}) {
            Due.due("point of no connector", desk.point(c, 0, 0), NONE);
        }
        desk.select(1, true);
        desk.move(5, -7);
        Due.due("point follows x", desk.point(0, 1, 0), 115);
        Due.due("point follows y", desk.point(0, 1, 1), 193);
    }

    private static void halves() {
        DiagramDesk desk = new DiagramDesk();
        desk.addShape(0, -101, -51, 1, 1);
        desk.addShape(0, -20, -30, 1, 1);
        desk.connect(0, 1, 1, 3, 2);
        desk.connect(0, 0, 1, 0, 2);
        Due.due("half of -100 and -20", desk.point(0, 1, 0), -60);
        Due.due("half of -51 and -30, rounded down", desk.point(1, 1, 1), -41);
        desk.resize(0, 2, 1);
        Due.due("half of -99 and -20, rounded down", desk.point(0, 2, 0), -60);
    }

    private static void length() {
        DiagramDesk desk = new DiagramDesk();
        desk.addShape(0, 0, 0, 20, 10);
        desk.addShape(2, -100, 200, 20, 30);
        for (int style = 0; style < 3; style++) {
            int c = desk.connect(0, 0, 1, 0, style);
            Due.due("length of style " + style, desk.length(c), 300);
        }
        desk.addShape(0, 0, -10, 20, 10);
        desk.connect(0, 0, 2, 2, 1);
        Due.due("length of nothing", desk.length(3), 0);
        for (int c : new int[] {Integer.MIN_VALUE, -1, 4, 20, Integer.MAX_VALUE}) {
            Due.due("length of no connector", desk.length(c), -1);
            Due.due("through of no connector", desk.through(c), -1);
        }
        DiagramDesk far = new DiagramDesk();
        far.addShape(0, -10000, -10000, 1, 1);
        far.addShape(0, 10000, 10000, 500, 500);
        far.connect(0, 3, 1, 2, 0);
        Due.due("the largest length", far.length(far.connectors() - 1), 20250 + 20500);
    }

    /** A level connector at y = 5 from x = 10 to x = 100, and boxes at and beside it. */
    private static void through() {
        DiagramDesk desk = new DiagramDesk();
        desk.addShape(0, 0, 0, 10, 10);
        desk.addShape(0, 100, 0, 10, 10);
        desk.connect(0, 1, 1, 3, 0);
        Due.due("through: not its ends", desk.through(0), 0);
        desk.addShape(0, 40, 5, 10, 10);
        Due.due("through: along a top border", desk.through(0), 0);
        desk.addShape(0, 40, -5, 10, 10);
        Due.due("through: along a bottom border", desk.through(0), 0);
        desk.addShape(0, 40, 4, 1, 2);
        Due.due("through: a small one", desk.through(0), 1 << 4);
        desk.addShape(1, 95, -10, 50, 50);
        Due.due("through: it ends inside; an ellipse by its rectangle", desk.through(0), 1 << 4 | 1 << 5);
        desk.addShape(2, 0, -10, 10, 50);
        Due.due("through: it touches a side", desk.through(0), 1 << 4 | 1 << 5);
        desk.resize(6, 11, 50);
        Due.due("through: it starts inside", desk.through(0), 1 << 4 | 1 << 5 | 1 << 6);
        desk.addShape(0, 10000, 0, 10, 10);
        Due.due("through: one far off", desk.through(0), 1 << 4 | 1 << 5 | 1 << 6);
        desk.removeShape(4);
        Due.due("through: one removed", desk.through(0), 1 << 5 | 1 << 6);
        desk.connect(1, 3, 0, 1, 2);
        Due.due("through: the same way back", desk.through(1), 1 << 5 | 1 << 6);

        DiagramDesk point = new DiagramDesk();
        point.addShape(0, 0, 0, 10, 10);
        point.addShape(0, 10, 0, 10, 10);
        point.addShape(0, 9, 4, 2, 2);
        point.addShape(0, 10, 4, 2, 2);
        point.connect(0, 1, 1, 3, 0);
        Due.due("through: a point inside, and one on a border", point.through(0), 1 << 2);
    }

    /** A straight connector from (0, 0) to (100, 50). */
    private static void throughSlanted() {
        DiagramDesk desk = new DiagramDesk();
        desk.addShape(0, -10, -1, 10, 2);
        desk.addShape(0, 100, 49, 10, 2);
        desk.connect(0, 1, 1, 3, 0);
        desk.addShape(0, 50, 15, 10, 10);
        Due.due("through: a corner on the line", desk.through(0), 0);
        desk.addShape(0, 49, 15, 10, 10);
        desk.addShape(0, 40, 25, 10, 10);
        Due.due("through: across a corner, and a corner on the other side", desk.through(0), 1 << 3);
        // (20, 10) and (22, 11) are corners: the line is the diagonal, without an integer point inside.
        desk.addShape(0, 20, 10, 2, 1);
        Due.due("through: between the coordinates", desk.through(0), 1 << 3 | 1 << 5);
        desk.addShape(0, 21, 10, 1, 1);
        Due.due("through: an edge of a unit box", desk.through(0), 1 << 3 | 1 << 5 | 1 << 6);
        desk.addShape(0, 60, 0, 40, 30);
        Due.due("through: in its box but beside the line", desk.through(0), 1 << 3 | 1 << 5 | 1 << 6);
        desk.addShape(0, 102, 51, 40, 30);
        Due.due("through: on the line but behind its end", desk.through(0), 1 << 3 | 1 << 5 | 1 << 6);
    }

    /** A line of (3, 2) from (3000, -5000), which has (1, 1) and (2, 1) beside it, one on each side. */
    private static void throughShort() {
        DiagramDesk desk = new DiagramDesk();
        desk.addShape(0, 2999, -4998, 1, 1);
        desk.addShape(0, 3001, -5000, 1, 1);
        desk.addShape(0, 2990, -5001, 10, 2);
        desk.addShape(0, 3003, -4999, 10, 2);
        Due.due("connect", desk.connect(2, 1, 3, 3, 0), 0);
        Due.due("through: one corner just beyond the line", desk.through(0), 1 << 1);
        desk.addShape(0, 3000, -4999, 1, 1);
        Due.due("through: touched at one corner only", desk.through(0), 1 << 1);
        desk.addShape(0, 3001, -4999, 1, 1);
        Due.due("through: one corner just beyond it on the other side", desk.through(0), 1 << 1 | 1 << 5);
        desk.connect(3, 3, 2, 1, 0);
        Due.due("through: the same way back", desk.through(1), 1 << 1 | 1 << 5);
        desk.resize(0, 3, 1);
        Due.due("through: still beside it", desk.through(0), 1 << 1 | 1 << 5);
    }

    /** Shape 0 may be run through like any other. */
    private static void throughFirst() {
        DiagramDesk desk = Due.deskWith(3);
        desk.bring(0, true);
        desk.addShape(0, -100, 0, 50, 50);
        desk.connect(3, 1, 1, 3, 0);
        Due.due("through: shape 0", desk.through(0), 1);
        desk.connect(3, 1, 2, 3, 0);
        Due.due("through: shapes 0 and 1", desk.through(1), 3);
    }

    private static void throughCorners() {
        DiagramDesk desk = new DiagramDesk();
        desk.addShape(0, 0, 0, 10, 10);
        desk.addShape(0, 100, 100, 10, 10);
        desk.addShape(0, 60, 0, 10, 200);
        desk.addShape(0, 100, 50, 10, 10);
        desk.connect(0, 1, 1, 0, 1);
        Due.due("through: both parts of one bend", desk.through(0), 1 << 2 | 1 << 3);
        desk.addShape(0, 50, 50, 10, 10);
        desk.connect(0, 1, 1, 3, 2);
        Due.due("through: the middle part of two bends", desk.through(1), 1 << 2 | 1 << 4);
        desk.connect(0, 2, 1, 0, 2);
        Due.due("through: two bends from below", desk.through(2), 1 << 2 | 1 << 3 | 1 << 4);
        desk.addShape(0, 4, 54, 2, 2);
        Due.due("through: a bend inside", desk.through(2), 1 << 2 | 1 << 3 | 1 << 4 | 1 << 5);
    }
}
