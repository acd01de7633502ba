/** Desks in the states that the tests of the edges start from. */
final class States {
    /** 60 characters, the text of five shapes. */
    static final String LONGEST = "b0,0,1,1;b0,0,1,1;b0,0,1,1;b0,0,1,1;b00000,00000,00001,00001";

    private States() {
    }

    /**
     * Some of everything: shapes 0, 1 and 3 to 7, connectors 0 to 3, group 1 with the group 0 (shapes 0 and 1)
     * and shape 3, group 3 with shapes 4 and 5, all selected but shape 7: the units are group 1, group 3 and shape 6.
     */
    static DiagramDesk busy() {
        DiagramDesk desk = new DiagramDesk();
        desk.addShape(0, 0, 0, 40, 20);
        desk.addShape(1, 100, 10, 31, 41);
        desk.addShape(2, -70, 50, 25, 25);
        desk.addShape(0, 60, -80, 7, 9);
        desk.addShape(2, 15, 5, 33, 8);
        desk.addShape(1, -200, -100, 50, 60);
        desk.addShape(0, 300, 300, 10, 10);
        desk.addShape(0, 500, -50, 20, 30);
        desk.connect(0, 1, 1, 3, 0);
        desk.connect(1, 2, 3, 0, 1);
        desk.connect(2, 2, 3, 0, 1);
        desk.connect(4, 3, 5, 1, 2);
        desk.connect(5, 0, 7, 2, 2);
        pair(desk, 0, 1);
        pair(desk, 1, 3);
        pair(desk, 6, 7);
        pair(desk, 4, 5);
        desk.ungroup(2);
        desk.setTolerance(9);
        desk.addGuide(0, -190);
        desk.addGuide(1, -77);
        desk.addGuide(0, 33);
        desk.removeShape(2);
        desk.select(7, false);
        desk.select(6, true);
        desk.select(0, true);
        desk.setGrid(7);
        Due.typeAll(desk, "b1,2,3");
        return desk;
    }

    /** All that has a limit is at it; selected are the shapes 16 and 17, which are in no group. */
    static DiagramDesk full() {
        DiagramDesk desk = Due.deskWith(20);
        for (int k = 0; k < 20; k++) {
            desk.connect(k, k % 4, (k + 1) % 20, k / 4 % 4, k % 3);
        }
        for (int k = 0; k < 16; k += 2) {
            pair(desk, k, k + 1);
        }
        for (int k = 0; k < 10; k++) {
            desk.addGuide(k % 2, 7 * k - 50);
        }
        desk.setTolerance(50);
        desk.setGrid(100);
        choose(desk, 16, 17);
        Due.typeAll(desk, LONGEST);
        return desk;
    }

    /** Boxes of 10 by 10 at the places, all selected. */
    static DiagramDesk chosen(int[]... places) {
        DiagramDesk desk = new DiagramDesk();
        for (int k = 0; k < places.length; k++) {
            desk.addShape(0, places[k][0], places[k][1], 10, 10);
            desk.select(k, true);
        }
        return desk;
    }

    /** Selects just these shapes and what is grouped with them. */
    static void choose(DiagramDesk desk, int... shapes) {
        for (int chosen = desk.selected(); chosen != 0; chosen = desk.selected()) {
            desk.select(Integer.numberOfTrailingZeros(chosen), false);
        }
        for (int k : shapes) {
            desk.select(k, true);
        }
    }

    private static void pair(DiagramDesk desk, int one, int other) {
        choose(desk, one, other);
        desk.group();
    }
}
