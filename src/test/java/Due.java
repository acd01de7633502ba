/** Counts and prints the answers that are not the due ones. */
final class Due {
    private static int wrong = 0;

    private Due() {
    }

    static void due(String call, long got, long want) {
        if (got != want) {
            wrong++;
            System.out.println(call + " answered " + got + ", due is " + want);
        }
    }

    static void typeAll(DiagramDesk desk, String text) {
        typeAll(desk, text, 0);
    }

    /** Goes on typing where the buffer has so many characters already. */
    static void typeAll(DiagramDesk desk, String text, int before) {
        for (int k = 0; k < text.length(); k++) {
            due("type " + text.charAt(k), desk.type(text.charAt(k)), before + k + 1);
        }
    }

    /** What read() answers to a text on an emptied buffer. */
    static int read(DiagramDesk desk, String text) {
        desk.clear();
        typeAll(desk, text);
        return desk.read();
    }

    /** Adds as many small boxes as asked for, side by side. */
    static DiagramDesk deskWith(int boxes) {
        DiagramDesk desk = new DiagramDesk();
        for (int k = 0; k < boxes; k++) {
            due("addShape", desk.addShape(0, 100 * k, 0, 50, 50), k);
        }
        return desk;
    }

    static void finish() {
        System.out.println(wrong == 0 ? "all answers are as due" : wrong + " answers are not as due");
        if (wrong != 0) {
            System.exit(1);
        }
    }
}
