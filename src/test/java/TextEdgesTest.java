/** Each sentence on texts (TEXTS, promises 29 to 31) that names a boundary case, with a test of its own. */
public final class TextEdgesTest {
    private static final int BAD = DiagramDesk.BAD;
    private static final int FULL = DiagramDesk.FULL;
    private static final int NONE = DiagramDesk.NONE;
    private static final String DIGITS = "0123456789";

    public static void main(String[] args) {
        codeRange();
        sixtyCharacters();
        badBeforeFull();
        typingAndClearingAreNoActs();
        clearEnds();
        emptyText();
        oneShape();
        mostShapes();
        eachCharacterAtEachPlace();
        fiveDigits();
        noDigits();
        minus();
        leadingZeros();
        endsTooEarly();
        farthestErrorPlaces();
        numberRanges();
        firstNumberOutOfRange();
        wrongCharacterFirst();
        addsAsAddShape();
        emptyAfterwards();
        staysWithAnError();
        afterAnError();
        oneAct();
        fullAtTwenty();
        fullCountsRemoved();
        errorBeforeFull();
        Due.finish();
    }

    private static DiagramDesk typed(String text) {
        DiagramDesk desk = new DiagramDesk();
        Due.typeAll(desk, text);
        return desk;
    }

    private static DiagramDesk typed(int shapes, String text) {
        DiagramDesk desk = Due.deskWith(shapes);
        Due.typeAll(desk, text);
        return desk;
    }

    /** The text has an error at the place, and reading it changes nothing. */
    private static void error(String text, int place) {
        Edge.still("read " + text, () -> typed(text), desk -> desk.read(), -100 - place);
    }

    private static void reads(String text, int shapes) {
        Edge.act("read " + text, () -> typed(text), desk -> desk.read(), shapes);
    }

    // "characters with codes from 32 to 126"; "BAD if c is not in its range"
    private static void codeRange() {
        Edge.range("type", States::busy, (desk, k) -> desk.type(k), 32, 126, BAD);
        Edge.none("type", States::busy, (desk, k) -> desk.type(k), BAD, -1, 0, 9, 10, 128, 160, 255, 65536 + 98);
        for (int c = 32; c <= 126; c++) {
            Due.due("type " + c, new DiagramDesk().type(c), 1);
        }
    }

    // "a buffer of at most 60 characters", "initially empty"; "FULL if there are 60 characters"
    private static void sixtyCharacters() {
        DiagramDesk desk = new DiagramDesk();
        for (int k = 1; k <= 60; k++) {
            Due.due("type", desk.type('b'), k);
        }
        for (int k = 0; k < 3; k++) {
            Due.due("one more", desk.type('b'), FULL);
        }
        Due.due("still 60", desk.clear(), 60);
        Due.due("room again", desk.type('b'), 1);
        Edge.still("one more on a full desk", States::full, full -> full.type('x'), FULL);
    }

    // "BAD if ..; FULL if ..", with "the one listed first is returned"
    private static void badBeforeFull() {
        Edge.none("type, wrong and full", States::full, (desk, k) -> desk.type(k), BAD, 31, 127, -1,
                Integer.MIN_VALUE, Integer.MAX_VALUE);
    }

    // type and clear are not described as acts.
    private static void typingAndClearingAreNoActs() {
        DiagramDesk desk = States.busy();
        long before = desk.fingerprint();
        Due.due("type", desk.type('b'), 7);
        Due.due("clear", desk.clear(), 7);
        Due.due("the diagram stays", desk.fingerprint(), before);
        Due.due("the history stays: the grid is the latest act", desk.undo(), 5);
        Due.due("the grid before", desk.setGrid(1), 0);
        DiagramDesk empty = typed("b0,0,1,1");
        Due.due("nothing to undo", empty.undo(), NONE);
        empty.clear();
        Due.due("nothing to undo", empty.undo(), NONE);
    }

    // "Returns the number of characters that it had": 0 and 60
    private static void clearEnds() {
        Edge.still("clear on an empty desk", DiagramDesk::new, desk -> desk.clear(), 0);
        DiagramDesk desk = States.full();
        Due.due("clear of all", desk.clear(), 60);
        Due.due("clear again", desk.clear(), 0);
        Due.due("the empty text", desk.read(), -100);
        DiagramDesk again = typed("b0,0,1,1");
        again.clear();
        Due.typeAll(again, "b0,0,1,");
        Due.due("nothing of the old text is left", again.read(), -107);
    }

    // "A text consists of one or more shapes": none is too few
    private static void emptyText() {
        error("", 0);
        Edge.still("read on an empty desk", DiagramDesk::new, desk -> desk.read(), -100);
        Edge.still("read in the midst", States::busy, desk -> desk.read(), -106);
    }

    // "a shape is "b", "e" or "d" (box, ellipse, diamond)"
    private static void oneShape() {
        String[] texts = {"b0,0,1,1", "e0,0,1,1", "d0,0,1,1"};
        for (int kind = 0; kind < 3; kind++) {
            reads(texts[kind], 1);
            DiagramDesk desk = typed(texts[kind]);
            desk.read();
            Due.due("kind of " + texts[kind], desk.shape(0, 0), kind);
        }
    }

    // The most shapes that 60 characters hold are six.
    private static void mostShapes() {
        reads(States.LONGEST, 5);
        reads("b0,0,1,1;e0,0,1,1;d0,0,1,1;b0,0,1,1;e0,0,1,1;d0,0,1,1", 6);
        reads("b0,0,1,1;e0,0,1,1;d0,0,1,1;b0,0,1,1;e0,0,1,1;d-0,-0,00001,1", 6);
        error("b0,0,1,1;e0,0,1,1;d0,0,1,1;b0,0,1,1;e0,0,1,1;d0,0,1,1;", 54);
        error("b0,0,1,1;e0,0,1,1;d0,0,1,1;b0,0,1,1;e0,0,1,1;d0,0,1,1;b0,0,1", 60);
        error("b0,0,1,1;e0,0,1,1;d0,0,1,1;b0,0,1,1;e0,0,1,1;d0,0,1,1;b0,0,x", 59);
    }

    /** After this beginning only these characters can stand; an x behind them can stand nowhere. */
    private static void canStand(String beginning, String allowed) {
        for (char c = 32; c <= 126; c++) {
            int place = beginning.length() + (allowed.indexOf(c) >= 0 ? 1 : 0);
            Due.due("after " + beginning + " comes " + c, typed(beginning + c + "x").read(), -100 - place);
        }
    }

    // "the index of the first character that cannot stand at its place"
    private static void eachCharacterAtEachPlace() {
        canStand("", "bed");
        for (String before : new String[] {"b", "b0,", "b0,0,", "b0,0,1,", "b0,0,1,1;e"}) {
            canStand(before, DIGITS + "-");
            canStand(before + "-", DIGITS);
        }
        for (String before : new String[] {"b0", "b-0", "b1234", "b0,7", "b0,0,1", "b0,0,1,1;d-1"}) {
            canStand(before, DIGITS + ",");
        }
        for (String before : new String[] {"b00000", "b-10000", "b0,00000", "b0,0,00001", "b0,0,1,1;d-00001"}) {
            canStand(before, ",");
        }
        for (String before : new String[] {"b0,0,1,1", "b0,0,1,0001", "b0,0,1,1;b0,0,1,1"}) {
            canStand(before, DIGITS + ";");
        }
        canStand("b0,0,1,00001", ";");
        canStand("b0,0,1,1;", "bed");
        canStand("b0,0,1,1;e0,0,1,1;", "bed");
    }

    // "one to five digits", "a sixth digit cannot"
    private static void fiveDigits() {
        reads("b00001,00001,00001,00001", 1);
        error("b000001,0,1,1", 6);
        error("b0,000001,1,1", 8);
        error("b0,0,000001,1", 10);
        error("b0,0,1,000001", 12);
        error("b-000001,0,1,1", 7);
        error("b123456", 6);
        error("b1234567890", 6);
    }

    // .. and at least one
    private static void noDigits() {
        error("b,0,1,1", 1);
        error("b0,,1,1", 3);
        error("b0,0,,1", 5);
        error("b0,0,1,", 7);
        error("b0,0,1,;b0,0,1,1", 7);
        error("b-,0,1,1", 2);
        error("b0,0,1,-", 8);
    }

    // "A number is perhaps "-" and ..": one, and nothing else
    private static void minus() {
        reads("b-1,-99,1,1", 1);
        reads("b-0,-00000,1,1", 1);
        error("b--1,0,1,1", 2);
        error("b+1,0,1,1", 1);
        error("b1-,0,1,1", 2);
        error("b1-1,0,1,1", 2);
        error("b- 1,0,1,1", 2);
        DiagramDesk desk = typed("b-1,-0,1,1");
        desk.read();
        Due.due("x is negative", desk.shape(0, 1), -1);
        Due.due("y is 0", desk.shape(0, 2), 0);
    }

    private static void leadingZeros() {
        DiagramDesk desk = typed("e-00012,00000,00500,01");
        Due.due("read", desk.read(), 1);
        int[] want = {1, -12, 0, 500, 1};
        for (int what = 0; what < 5; what++) {
            Due.due("leading zeros, " + what, desk.shape(0, what), want[what]);
        }
    }

    // "or its length if it ends too early": every beginning that is no text
    private static void endsTooEarly() {
        String text = "b-12,3,45,67;e0,0,1,1";
        for (int length = 0; length <= text.length(); length++) {
            boolean whole = length == 11 || length == 12 || length == 21;
            if (whole) {
                reads(text.substring(0, length), length == 21 ? 2 : 1);
            } else {
                error(text.substring(0, length), length);
            }
        }
    }

    // The error place in a text of 60 characters: the last of them, and its length
    private static void farthestErrorPlaces() {
        String head = "b0,0,1,1;b0,0,1,1;b0,0,1,1;b0,0,1,1;";
        error(head + "b00000,00000,00001,0000x", 59);
        error(head + "b0000,00000,00001,000011", 59);
        error(head + "b0000,00000,00001,00001;", 60);
        error(head + "b00000,00000,00001,00000", 55);
        error(head + "b00000,-0000,000001,0001", 18 + 36);
    }

    // "a number that is out of its range": the last one that is allowed and the first that is not
    private static void numberRanges() {
        reads("b-10000,-10000,1,1", 1);
        reads("b10000,10000,500,500", 1);
        error("b-10001,0,1,1", 1);
        error("b10001,0,1,1", 1);
        error("b0,-10001,1,1", 3);
        error("b0,10001,1,1", 3);
        error("b0,0,0,1", 5);
        error("b0,0,501,1", 5);
        error("b0,0,-1,1", 5);
        error("b0,0,1,0", 7);
        error("b0,0,1,501", 7);
        error("b0,0,1,-1", 7);
        error("b0,0,-0,1", 5);
        error("b99999,0,1,1", 1);
        error("b-99999,0,1,1", 1);
        error("b0,0,1,99999", 7);
    }

    // "the index of the first character of the first such number (with its sign)"
    private static void firstNumberOutOfRange() {
        error("b0,0,501,0", 5);
        error("b0,0,1,0;b10001,0,1,1", 7);
        error("b0,0,1,1;b0,-10001,0,0", 12);
        error("b0,0,1,1;b0,0,1,-500", 16);
        error("b-10001,-10001,-1,-1", 1);
    }

    // "if there is none, but ..": a character that cannot stand there comes first, wherever it is
    private static void wrongCharacterFirst() {
        error("b10001,0,1,1;x", 13);
        error("b10001,0,1,1;", 13);
        error("b10001", 6);
        error("b0,0,0,1,", 8);
        error("b99999,99999,99999,999999", 24);
    }

    // read: "Adds the shapes of the text, as addShape() does"
    private static void addsAsAddShape() {
        DiagramDesk desk = States.busy();
        int selected = desk.selected();
        desk.clear();
        Due.typeAll(desk, "d-7,8,9,10;e1,2,3,4");
        Due.due("read", desk.read(), 2);
        int[][] want = {{2, -7, 8, 9, 10, 0, 1, NONE, NONE}, {1, 1, 2, 3, 4, 0, 0, NONE, NONE}};
        for (int what = 0; what <= 8; what++) {
            Due.due("the first one, " + what, desk.shape(8, what), want[0][what]);
            Due.due("the second one, " + what, desk.shape(9, what), want[1][what]);
        }
        Due.due("the selection stays", desk.selected(), selected);
        Due.due("the next number", desk.addShape(0, 0, 0, 1, 1), 10);
    }

    // "The buffer is empty then"
    private static void emptyAfterwards() {
        DiagramDesk desk = typed("b0,0,1,1");
        Due.due("read", desk.read(), 1);
        Due.due("read again", desk.read(), -100);
        Due.due("nothing to clear", desk.clear(), 0);
        Due.due("type", desk.type('b'), 1);
    }

    // "(with an error it stays)"
    private static void staysWithAnError() {
        DiagramDesk desk = typed("b0,0,1");
        Due.due("read", desk.read(), -106);
        Due.due("read again", desk.read(), -106);
        Due.due("go on", desk.type(','), 7);
        Due.due("go on", desk.type('1'), 8);
        Due.due("read", desk.read(), 1);
        DiagramDesk full = typed(20, "b0,0,1,1");
        Due.due("read", full.read(), FULL);
        Due.due("read again", full.read(), FULL);
        Due.due("it stays", full.clear(), 8);
    }

    // Shapes that were read before the error place don't count in a later reading.
    private static void afterAnError() {
        DiagramDesk desk = typed("b0,0,1,1;e0,0,1,1;");
        Due.due("read", desk.read(), -118);
        desk.type('d');
        Due.due("read", desk.read(), -119);
        Due.typeAll(desk, "7,8,9,10", 19);
        Due.due("read", desk.read(), 3);
        Due.due("the next number", desk.addShape(0, 0, 0, 1, 1), 3);
        Due.due("the third one", desk.shape(2, 1), 7);
        Due.typeAll(desk, "b5,0,1,1");
        Due.due("read another text", desk.read(), 1);
        Due.due("its shape", desk.shape(4, 1), 5);
        Due.due("the next number", desk.addShape(0, 0, 0, 1, 1), 5);
    }

    // "This is one act", however many shapes it adds; the buffer is no part of the history
    private static void oneAct() {
        DiagramDesk desk = typed("b0,0,1,1;e0,0,1,1;d0,0,1,1;b0,0,1,1;e0,0,1,1;d0,0,1,1");
        Due.due("read", desk.read(), 6);
        Due.due("one undo", desk.undo(), 0);
        Due.due("none is left", desk.fingerprint(), 89 * 31);
        Due.due("the buffer stays empty", desk.clear(), 0);
    }

    // "FULL if more than 20 shapes would have been added": 20 and 21
    private static void fullAtTwenty() {
        Edge.act("read the twentieth", () -> typed(19, "b0,0,1,1"), desk -> desk.read(), 1);
        Edge.still("read one more", () -> typed(20, "b0,0,1,1"), desk -> desk.read(), FULL);
        Edge.act("read up to 20", () -> typed(15, States.LONGEST), desk -> desk.read(), 5);
        Edge.still("read up to 21", () -> typed(16, States.LONGEST), desk -> desk.read(), FULL);
        Edge.still("read on a full desk", States::full, desk -> desk.read(), FULL);
    }

    private static DiagramDesk fewLeft() {
        DiagramDesk desk = Due.deskWith(16);
        for (int k = 0; k < 16; k++) {
            desk.removeShape(k);
        }
        Due.typeAll(desk, States.LONGEST);
        return desk;
    }

    // "would have been added": those that were removed count
    private static void fullCountsRemoved() {
        Edge.still("read up to 21 added in all", TextEdgesTest::fewLeft, desk -> desk.read(), FULL);
    }

    // "-100 minus the error place ..; FULL if ..", with "the one listed first is returned"
    private static void errorBeforeFull() {
        Edge.still("read, wrong and full", () -> typed(20, "b0,0,1,1;"), desk -> desk.read(), -109);
        Edge.still("read, out of range and full", () -> typed(20, "b0,0,1,0"), desk -> desk.read(), -107);
        Edge.still("read nothing, and full", () -> typed(20, ""), desk -> desk.read(), -100);
    }
}
