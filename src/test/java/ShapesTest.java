/** Promises 1 to 8: a new object, addShape, removeShape, resize, shape, port, bring, at. */
public final class ShapesTest {
    private static final int NONE = DiagramDesk.NONE;
    private static final int[] OUT_OF_RANGE = {Integer.MIN_VALUE, -1, 20, 32, Integer.MAX_VALUE};

    public static void main(String[] args) {
        newObject();
        addShape();
        removeShape();
        resize();
        shape();
        port();
        bring();
        at();
        atEllipse();
        atDiamond();
        Due.finish();
    }

    private static void newObject() {
        DiagramDesk desk = new DiagramDesk();
        for (int k = 0; k < 20; k++) {
            Due.due("new: shape", desk.shape(k, 0), NONE);
        }
        Due.due("new: connectors", desk.connectors(), 0);
        Due.due("new: selected", desk.selected(), 0);
        for (int k = 0; k < 8; k++) {
            Due.due("new: shapesOf", desk.shapesOf(k), -1);
        }
        Due.due("new: undo", desk.undo(), NONE);
        Due.due("new: fingerprint", desk.fingerprint(), 89 * 31);
        Due.due("new: setGrid", desk.setGrid(3), 0);
        Due.due("new: setTolerance", desk.setTolerance(3), 5);
        Due.due("new: clearGuides", desk.clearGuides(), 0);
        Due.due("new: clear", desk.clear(), 0);
        Due.due("new: another object", new DiagramDesk().setGrid(0), 0);
    }

    private static void addShape() {
        DiagramDesk desk = new DiagramDesk();
        int[][] wrong = {{-1, 0, 0, 1, 1}, {3, 0, 0, 1, 1}, {0, -10001, 0, 1, 1}, {0, 10001, 0, 1, 1},
            {0, 0, -10001, 1, 1}, {0, 0, 10001, 1, 1}, {0, 0, 0, 0, 1}, {0, 0, 0, 501, 1}, {0, 0, 0, 1, 0},
            {0, 0, 0, 1, 501}, {0, 0, 0, -5, 1}, {0, 0, 0, 1, Integer.MIN_VALUE}, {0, Integer.MAX_VALUE, 0, 1, 1}};
        for (int[] n : wrong) {
            Due.due("addShape out of range", desk.addShape(n[0], n[1], n[2], n[3], n[4]), -1);
        }
        Due.due("addShape: errors are no acts", desk.undo(), NONE);
        Due.due("addShape: least", desk.addShape(0, -10000, -10000, 1, 1), 0);
        Due.due("addShape: most", desk.addShape(2, 10000, 10000, 500, 500), 1);
        Due.due("addShape: ellipse", desk.addShape(1, -3, 4, 5, 6), 2);
        Due.due("addShape: not selected", desk.selected(), 0);
        Due.due("addShape: in no group", desk.shape(2, 7), NONE);
        Due.due("addShape: in front", desk.shape(2, 6), 0);
        Due.due("addShape: behind", desk.shape(0, 6), 2);
        for (int k = 3; k < 20; k++) {
            Due.due("addShape", desk.addShape(0, 0, 0, 1, 1), k);
        }
        Due.due("addShape: full", desk.addShape(0, 0, 0, 1, 1), -3);
        Due.due("addShape: BAD before FULL", desk.addShape(3, 0, 0, 1, 1), -1);
        Due.due("addShape: removed numbers stay unused", desk.removeShape(19), 0);
        Due.due("addShape: still full", desk.addShape(0, 0, 0, 1, 1), -3);
    }

    private static void removeShape() {
        DiagramDesk desk = Due.deskWith(4);
        for (int k : OUT_OF_RANGE) {
            Due.due("removeShape of none", desk.removeShape(k), -1);
        }
        Due.due("removeShape: not added yet", desk.removeShape(4), -1);
        desk.connect(0, 1, 1, 3, 0);
        desk.connect(2, 1, 3, 3, 1);
        desk.connect(1, 2, 0, 2, 2);
        desk.connect(3, 2, 1, 2, 0);
        desk.select(1, true);
        desk.select(2, true);
        Due.due("removeShape: its connectors", desk.removeShape(1), 3);
        Due.due("removeShape: the other connector", desk.connectors(), 1);
        Due.due("removeShape: it has number 0", desk.point(0, 1, 0), 300);
        Due.due("removeShape: the selection", desk.selected(), 4);
        Due.due("removeShape: gone", desk.shape(1, 0), NONE);
        Due.due("removeShape: twice", desk.removeShape(1), -1);
        Due.due("removeShape: the depth closes", desk.shape(0, 6), 2);
        Due.due("removeShape: in front stays", desk.shape(3, 6), 0);
        Due.due("removeShape: the number is unused", desk.addShape(0, 0, 0, 1, 1), 4);
        Due.due("removeShape: without connectors", desk.removeShape(0), 0);

        DiagramDesk full = Due.deskWith(3);
        for (int k = 0; k < 20; k++) {
            full.connect(k % 2, 0, k == 19 ? 2 : 1 - k % 2, 1, 0);
        }
        Due.due("removeShape: the last of twenty", full.removeShape(2), 1);
        Due.due("removeShape: nineteen stay", full.connectors(), 19);
        Due.due("removeShape: all of them", full.removeShape(1), 19);
    }

    private static void resize() {
        DiagramDesk desk = Due.deskWith(3);
        desk.connect(0, 1, 1, 3, 0);
        desk.connect(1, 1, 2, 3, 0);
        desk.connect(1, 2, 0, 0, 0);
        Due.due("resize: connectors", desk.resize(1, 500, 1), 3);
        Due.due("resize: connectors of 2", desk.resize(2, 1, 500), 1);
        Due.due("resize: width", desk.shape(1, 3), 500);
        Due.due("resize: height", desk.shape(1, 4), 1);
        Due.due("resize: x stays", desk.shape(1, 1), 100);
        Due.due("resize: y stays", desk.shape(1, 2), 0);
        Due.due("resize: the connector follows", desk.point(1, 0, 0), 600);
        Due.due("resize: width 0", desk.resize(1, 0, 5), -1);
        Due.due("resize: width 501", desk.resize(1, 501, 5), -1);
        Due.due("resize: height 0", desk.resize(1, 5, 0), -1);
        Due.due("resize: height 501", desk.resize(1, 5, 501), -1);
        Due.due("resize: errors change nothing", desk.shape(1, 3), 500);
        for (int k : OUT_OF_RANGE) {
            Due.due("resize of none", desk.resize(k, 5, 5), -1);
        }
    }

    private static void shape() {
        DiagramDesk desk = Due.deskWith(2);
        desk.addShape(2, -7, 8, 9, 10);
        int[] want = {2, -7, 8, 9, 10, 0, 0, NONE, NONE};
        for (int what = 0; what <= 8; what++) {
            Due.due("shape what " + what, desk.shape(2, what), want[what]);
        }
        desk.select(2, true);
        Due.due("shape: selected", desk.shape(2, 5), 1);
        Due.due("shape: the other not", desk.shape(1, 5), 0);
        for (int what : new int[] {-1, 9, Integer.MIN_VALUE, Integer.MAX_VALUE}) {
            Due.due("shape: what out of range", desk.shape(2, what), NONE);
        }
        for (int k : OUT_OF_RANGE) {
            Due.due("shape of none", desk.shape(k, 0), NONE);
        }
        desk.select(1, true);
        desk.group();
        desk.select(0, true);
        desk.group();
        Due.due("shape: its group", desk.shape(2, 7), 0);
        Due.due("shape: the outermost one", desk.shape(2, 8), 1);
        Due.due("shape: both the same", desk.shape(0, 7), 1);
        Due.due("shape: both the same", desk.shape(0, 8), 1);
    }

    private static void port() {
        DiagramDesk desk = new DiagramDesk();
        desk.addShape(1, -11, 20, 7, 5);
        int[][] want = {{-8, 20}, {-4, 22}, {-8, 25}, {-11, 22}};
        for (int port = 0; port < 4; port++) {
            Due.due("port x " + port, desk.port(0, port, 0), want[port][0]);
            Due.due("port y " + port, desk.port(0, port, 1), want[port][1]);
        }
        Due.due("port -1", desk.port(0, -1, 0), NONE);
        Due.due("port 4", desk.port(0, 4, 0), NONE);
        Due.due("port: axis -1", desk.port(0, 0, -1), NONE);
        Due.due("port: axis 2", desk.port(0, 0, 2), NONE);
        for (int k : OUT_OF_RANGE) {
            Due.due("port of none", desk.port(k, 0, 0), NONE);
        }
    }

    private static void depths(DiagramDesk desk, String call, int... want) {
        for (int k = 0; k < want.length; k++) {
            Due.due(call + ": depth of " + k, desk.shape(k, 6), want[k]);
        }
    }

    private static void bring() {
        DiagramDesk desk = Due.deskWith(4);
        depths(desk, "new shapes", 3, 2, 1, 0);
        Due.due("bring 1 to the front", desk.bring(1, true), 2);
        depths(desk, "bring 1 to the front", 3, 0, 2, 1);
        Due.due("bring 3 to the back", desk.bring(3, false), 1);
        depths(desk, "bring 3 to the back", 2, 0, 1, 3);
        Due.due("bring the front one to the front", desk.bring(1, true), 0);
        depths(desk, "bring the front one to the front", 2, 0, 1, 3);
        Due.due("bring the back one to the back", desk.bring(3, false), 3);
        desk.removeShape(2);
        depths(desk, "after a removal", 1, 0, NONE, 2);
        Due.due("bring 1 to the back", desk.bring(1, false), 0);
        depths(desk, "bring 1 to the back", 0, 2, NONE, 1);
        Due.due("bring a removed one", desk.bring(2, true), -1);
        for (int k : OUT_OF_RANGE) {
            Due.due("bring none", desk.bring(k, true), -1);
        }
    }

    private static void at() {
        DiagramDesk desk = new DiagramDesk();
        desk.addShape(0, 10, 20, 30, 40);
        int[][] inside = {{10, 20}, {40, 20}, {10, 60}, {40, 60}, {25, 33}};
        int[][] outside = {{9, 20}, {41, 20}, {10, 19}, {40, 61}, {100000, -100000}, {-100000, 100000}};
        for (int[] p : inside) {
            Due.due("at in a box", desk.at(p[0], p[1]), 0);
        }
        for (int[] p : outside) {
            Due.due("at beside a box", desk.at(p[0], p[1]), NONE);
        }
        for (int far : new int[] {-100001, 100001, Integer.MIN_VALUE, Integer.MAX_VALUE}) {
            Due.due("at: x out of range", desk.at(far, 0), -1);
            Due.due("at: y out of range", desk.at(0, far), -1);
        }
        desk.addShape(0, 30, 50, 30, 40);
        Due.due("at: the frontmost", desk.at(35, 55), 1);
        desk.bring(1, false);
        Due.due("at: the other brought behind", desk.at(35, 55), 0);
        desk.removeShape(0);
        Due.due("at: after a removal", desk.at(35, 55), 1);
    }

    /** Width 10 and height 6, so that inside is (x / 5)^2 + (y / 3)^2 <= 1 around the center. */
    private static void atEllipse() {
        DiagramDesk desk = new DiagramDesk();
        desk.addShape(1, -5, -3, 10, 6);
        int[][] inside = {{5, 0}, {-5, 0}, {0, 3}, {0, -3}, {3, 2}, {-3, -2}, {4, 1}};
        int[][] outside = {{6, 0}, {0, 4}, {4, 2}, {-4, 2}, {5, 1}, {1, 3}, {5, 3}, {100000, 100000}};
        for (int[] p : inside) {
            Due.due("at in an ellipse " + p[0] + ", " + p[1], desk.at(p[0], p[1]), 0);
        }
        for (int[] p : outside) {
            Due.due("at beside an ellipse " + p[0] + ", " + p[1], desk.at(p[0], p[1]), NONE);
        }
        // 30 and 40 of 50 lie just on the border, and the products pass 2^31.
        desk.addShape(1, 9500, 9500, 500, 500);
        Due.due("at on a large ellipse", desk.at(9900, 9950), 1);
        Due.due("at beside a large ellipse", desk.at(9901, 9950), NONE);
        // With odd sizes the center lies between the coordinates: a = 1 and b = 1 for all four points.
        desk.addShape(1, 100, 100, 1, 1);
        Due.due("at a corner of the smallest ellipse", desk.at(100, 100), NONE);
    }

    /** Width 10 and height 6, so that inside is |x| / 5 + |y| / 3 <= 1 around the center. */
    private static void atDiamond() {
        DiagramDesk desk = new DiagramDesk();
        desk.addShape(2, -5, -3, 10, 6);
        int[][] inside = {{5, 0}, {-5, 0}, {0, 3}, {0, -3}, {3, 1}, {-1, -2}};
        int[][] outside = {{6, 0}, {0, 4}, {4, 1}, {3, -2}, {-2, 2}, {-100000, 100000}};
        for (int[] p : inside) {
            Due.due("at in a diamond " + p[0] + ", " + p[1], desk.at(p[0], p[1]), 0);
        }
        for (int[] p : outside) {
            Due.due("at beside a diamond " + p[0] + ", " + p[1], desk.at(p[0], p[1]), NONE);
        }
        desk.addShape(2, 100, 100, 4, 4);
        Due.due("at just on a diamond", desk.at(101, 101), 1);
        Due.due("at a corner of its rectangle", desk.at(100, 100), NONE);
    }
}
