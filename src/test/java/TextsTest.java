/** Promises 29 to 31: type, clear, read. */
public final class TextsTest {
    private static final int NONE = DiagramDesk.NONE;

    public static void main(String[] args) {
        type();
        readShapes();
        errorPlaces();
        ranges();
        full();
        buffer();
        Due.finish();
    }

    private static void type() {
        DiagramDesk desk = new DiagramDesk();
        for (int c : new int[] {Integer.MIN_VALUE, -1, 0, 31, 127, 160, Integer.MAX_VALUE}) {
            Due.due("type " + c, desk.type(c), -1);
        }
        for (int k = 1; k <= 60; k++) {
            Due.due("type", desk.type(k % 2 == 0 ? 32 : 126), k);
        }
        Due.due("type: full", desk.type(65), -3);
        Due.due("type: BAD before FULL", desk.type(31), -1);
        Due.due("clear", desk.clear(), 60);
        Due.due("clear again", desk.clear(), 0);
        Due.due("type", desk.type(65), 1);
        Due.due("typing is no act", desk.undo(), NONE);
    }

    private static void shape(DiagramDesk desk, int shape, int... want) {
        for (int what = 0; what < 5; what++) {
            Due.due("read shape " + shape + ", " + what, desk.shape(shape, what), want[what]);
        }
    }

    private static void readShapes() {
        DiagramDesk desk = Due.deskWith(1);
        Due.due("read one", Due.read(desk, "b-10000,10000,1,500"), 1);
        shape(desk, 1, 0, -10000, 10000, 1, 500);
        Due.due("read three", Due.read(desk, "e00007,-0,00500,012;d10000,-9,3,4;b0,0,1,1"), 3);
        shape(desk, 2, 1, 7, 0, 500, 12);
        shape(desk, 3, 2, 10000, -9, 3, 4);
        shape(desk, 4, 0, 0, 0, 1, 1);
        Due.due("the last one is in front", desk.shape(4, 6), 0);
        Due.due("not selected", desk.selected(), 0);
        Due.due("in no group", desk.shape(4, 7), NONE);
        Due.due("one act", desk.undo(), 2);
        Due.due("all are gone", desk.shape(2, 0), NONE);
        Due.due("the one before is there", desk.shape(1, 0), 0);
        Due.due("the buffer stays empty", desk.clear(), 0);
        Due.due("six", Due.read(desk, "b0,0,1,1;b0,0,1,1;b0,0,1,1;b0,0,1,1;b0,0,1,1;b0,0,1,1234"), -100 - 52);
        Due.due("six", Due.read(desk, "b0,0,1,1;b0,0,1,1;b0,0,1,1;b0,0,1,1;b0,0,1,1;b0,0,1,00123"), 6);
        Due.due("a seventh has no room", Due.read(desk, "b0,0,1,1;b0,0,1,1;b0,0,1,1;b0,0,1,1;b0,0,1,1;b0,0,1,1;b0,0,1"),
                -160);
    }

    private static void errorPlaces() {
        DiagramDesk desk = new DiagramDesk();
        String[] texts = {"", "x", "B0,0,1,1", " b0,0,1,1", ";", "b", "b-", "b--1,2,3,4", "b,0,1,1", "b0", "b0,", "b0,0,1",
            "b0,0,1,", "b0,0,1,-", "b0;0,1,1", "b0,0,1;", "b0,0,1,1,", "b0,0,1,1;", "b0,0,1,1;;", "b0,0,1,1;x",
            "b0,0,1,1b", "b0,0,1,1 ", "b123456,0,1,1", "b-123456,0,1,1", "b12345", "b0,0,1,123456", "b0,0,1,1;e0,0,+1,1",
            "b 0,0,1,1", "b0 ,0,1,1", "bb0,0,1,1", "b0,0,1-1,1", "b0/0,1,1", "b:0,0,1,1"};
        int[] places = {0, 0, 0, 0, 0, 1, 2, 2, 1, 2, 3, 6, 7, 8, 2, 6, 8, 9, 9, 9,
            8, 8, 6, 7, 6, 12, 14, 1, 2, 1, 6, 2, 1};
        for (int k = 0; k < texts.length; k++) {
            Due.due("read " + texts[k], Due.read(desk, texts[k]), -100 - places[k]);
            Due.due("with an error the buffer stays", desk.clear(), texts[k].length());
        }
        Due.due("errors are no acts", desk.undo(), NONE);
    }

    private static void ranges() {
        DiagramDesk desk = new DiagramDesk();
        String[] texts = {"b10001,0,1,1", "b-10001,0,1,1", "b0,10001,1,1", "b0,-99999,1,1", "b0,0,0,1", "b0,0,501,1",
            "b0,0,-1,1", "b0,0,1,0", "b0,0,1,501", "b0,0,1,-0", "b0,0,1,1;e0,0,0,0", "b10001,0,1,1;e0,0,1",
            "b10001,0,1,1;", "b99999,99999,0,0"};
        int[] places = {1, 1, 3, 3, 5, 5, 5, 7, 7, 7, 14, 19, 13, 1};
        for (int k = 0; k < texts.length; k++) {
            Due.due("read " + texts[k], Due.read(desk, texts[k]), -100 - places[k]);
        }
    }

    private static void full() {
        DiagramDesk desk = Due.deskWith(17);
        desk.removeShape(0);
        Due.due("four more than there is room", Due.read(desk, "b0,0,1,1;b0,0,1,1;b0,0,1,1;b0,0,1,1"), -3);
        Due.due("an error before FULL", Due.read(desk, "b0,0,1,1;b0,0,1,1;b0,0,1,1;b0,0,1,0"), -100 - 34);
        Due.due("none was added", desk.shape(17, 0), NONE);
        Due.due("three fit", Due.read(desk, "b0,0,1,1;b0,0,1,1;b0,0,1,1"), 3);
        Due.due("one is too many", Due.read(desk, "b0,0,1,1"), -3);
        Due.due("with FULL the buffer stays", desk.type(';'), 9);
    }

    private static void buffer() {
        DiagramDesk desk = new DiagramDesk();
        Due.typeAll(desk, "b0,0,1");
        Due.due("read too early", desk.read(), -106);
        Due.due("go on", desk.type(','), 7);
        Due.due("go on", desk.type('9'), 8);
        Due.due("read", desk.read(), 1);
        Due.due("the height", desk.shape(0, 4), 9);
        Due.due("the buffer is empty", desk.type('b'), 1);
        Due.due("undo leaves the buffer", desk.undo(), 0);
        Due.due("undo leaves the buffer", desk.clear(), 1);
    }
}
