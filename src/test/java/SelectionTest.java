/** Promises 15 to 19: select, selected, group, ungroup, shapesOf. */
public final class SelectionTest {
    private static final int NONE = DiagramDesk.NONE;
    private static final int[] OUT_OF_RANGE = {Integer.MIN_VALUE, -1, 20, 32, Integer.MAX_VALUE};

    public static void main(String[] args) {
        select();
        group();
        nested();
        ungroup();
        emptied();
        fullGroups();
        Due.finish();
    }

    private static void choose(DiagramDesk desk, int... shapes) {
        for (int k = 0; k < 20; k++) {
            desk.select(k, false);
        }
        for (int k : shapes) {
            desk.select(k, true);
        }
    }

    private static void select() {
        DiagramDesk desk = Due.deskWith(4);
        Due.due("select", desk.select(2, true), 1);
        Due.due("select again", desk.select(2, true), 1);
        Due.due("select another", desk.select(0, true), 2);
        Due.due("selected", desk.selected(), 5);
        Due.due("end of one not selected", desk.select(1, false), 2);
        Due.due("end of one", desk.select(2, false), 1);
        Due.due("selected", desk.selected(), 1);
        for (int k : OUT_OF_RANGE) {
            Due.due("select none", desk.select(k, true), -1);
        }
        desk.removeShape(3);
        Due.due("select a removed one", desk.select(3, true), -1);
        Due.due("errors change nothing", desk.selected(), 1);
    }

    private static void group() {
        DiagramDesk desk = Due.deskWith(5);
        Due.due("group of nothing", desk.group(), -2);
        choose(desk, 1);
        Due.due("group of one unit", desk.group(), -2);
        choose(desk, 1, 3);
        Due.due("group", desk.group(), 0);
        Due.due("group: its shapes", desk.shapesOf(0), 10);
        Due.due("group: still selected", desk.selected(), 10);
        Due.due("group of one group", desk.group(), -2);
        choose(desk);
        Due.due("select a member", desk.select(3, true), 2);
        Due.due("select another one", desk.select(0, true), 3);
        Due.due("end of a member", desk.select(1, false), 1);
        Due.due("selected", desk.selected(), 1);
        for (int k : new int[] {Integer.MIN_VALUE, -1, 1, 7, 8, Integer.MAX_VALUE}) {
            Due.due("shapesOf none", desk.shapesOf(k), -1);
            Due.due("ungroup none", desk.ungroup(k), -1);
        }
    }

    private static void nested() {
        DiagramDesk desk = Due.deskWith(7);
        choose(desk, 0, 1);
        Due.due("group 0", desk.group(), 0);
        choose(desk, 2, 3);
        Due.due("group 1", desk.group(), 1);
        choose(desk, 0, 2, 4);
        Due.due("group 2 of two groups and a shape", desk.group(), 2);
        choose(desk, 1, 5);
        Due.due("all in one", desk.selected(), 63);
        Due.due("group 3", desk.group(), 3);
        Due.due("shapesOf 0", desk.shapesOf(0), 3);
        Due.due("shapesOf 1", desk.shapesOf(1), 12);
        Due.due("shapesOf 2", desk.shapesOf(2), 31);
        Due.due("shapesOf 3", desk.shapesOf(3), 63);
        Due.due("group of 0", desk.shape(0, 7), 0);
        Due.due("group of 4", desk.shape(4, 7), 2);
        Due.due("outermost of 0", desk.shape(0, 8), 3);
        Due.due("outermost of 4", desk.shape(4, 8), 3);
        Due.due("group of 6", desk.shape(6, 8), NONE);

        Due.due("ungroup an inner one", desk.ungroup(2), 3);
        Due.due("shape 4 goes up", desk.shape(4, 7), 3);
        Due.due("shape 0 stays", desk.shape(0, 7), 0);
        Due.due("outermost stays", desk.shape(0, 8), 3);
        Due.due("its shapes stay", desk.shapesOf(3), 63);
        Due.due("ungroup the outermost", desk.ungroup(3), 4);
        Due.due("shape 4 is free", desk.shape(4, 8), NONE);
        Due.due("outermost of 0", desk.shape(0, 8), 0);
        Due.due("still selected", desk.selected(), 63);
        choose(desk, 2);
        Due.due("now apart", desk.selected(), 12);
        desk.select(6, true);
        Due.due("the smallest free number", desk.group(), 2);
    }

    private static void ungroup() {
        DiagramDesk desk = Due.deskWith(3);
        choose(desk, 0, 2);
        desk.group();
        Due.due("ungroup", desk.ungroup(0), 2);
        Due.due("ungroup twice", desk.ungroup(0), -1);
        Due.due("what is selected stays", desk.selected(), 5);
        Due.due("in no group", desk.shape(0, 7), NONE);
        Due.due("each one apart", desk.select(0, false), 1);
    }

    private static void emptied() {
        DiagramDesk desk = Due.deskWith(4);
        choose(desk, 0, 1);
        desk.group();
        choose(desk, 0, 2);
        desk.group();
        choose(desk, 0, 3);
        desk.group();
        desk.removeShape(0);
        Due.due("a single member", desk.shapesOf(0), 2);
        Due.due("its parent", desk.shapesOf(1), 6);
        desk.removeShape(1);
        Due.due("without shapes: gone", desk.shapesOf(0), -1);
        Due.due("its parent stays", desk.shapesOf(1), 4);
        desk.removeShape(2);
        Due.due("the parent goes", desk.shapesOf(1), -1);
        Due.due("the outermost stays", desk.shapesOf(2), 8);
        Due.due("with one member", desk.ungroup(2), 1);

        DiagramDesk chain = Due.deskWith(3);
        choose(chain, 0, 1);
        chain.group();
        choose(chain, 0, 2);
        chain.group();
        chain.removeShape(2);
        chain.removeShape(0);
        Due.due("a group in a group in a chain", chain.shapesOf(1), 2);
        chain.removeShape(1);
        Due.due("both go at once", chain.shapesOf(0), -1);
        Due.due("both go at once", chain.shapesOf(1), -1);
        chain.undo();
        Due.due("and come back", chain.shape(1, 8), 1);
    }

    private static void fullGroups() {
        DiagramDesk desk = Due.deskWith(19);
        for (int k = 0; k < 8; k++) {
            choose(desk, 2 * k, 2 * k + 1);
            Due.due("group", desk.group(), k);
        }
        choose(desk, 17, 18);
        Due.due("group: full", desk.group(), -3);
        choose(desk, 17);
        Due.due("group: STATE before FULL", desk.group(), -2);
        desk.ungroup(5);
        choose(desk, 17, 18);
        Due.due("group: the free number", desk.group(), 5);

        DiagramDesk deep = Due.deskWith(10);
        deep.select(0, true);
        for (int k = 0; k < 8; k++) {
            deep.select(k + 1, true);
            Due.due("deep group", deep.group(), k);
        }
        Due.due("the deepest", deep.shape(0, 7), 0);
        Due.due("the outermost", deep.shape(0, 8), 7);
        Due.due("its shapes", deep.shapesOf(7), 511);
        deep.select(9, true);
        Due.due("deep group: full", deep.group(), -3);
    }
}
