/** Each sentence on groups and the selection (promises 15 to 19) that names a boundary case, with a test of its own. */
public final class SelectionEdgesTest {
    private static final int BAD = DiagramDesk.BAD;
    private static final int STATE = DiagramDesk.STATE;
    private static final int FULL = DiagramDesk.FULL;
    private static final int NONE = DiagramDesk.NONE;

    public static void main(String[] args) {
        eightGroups();
        smallestFreeNumber();
        endedByRemoval();
        memberOfOne();
        withoutShapes();
        allWithoutShapesAtOnce();
        singleMember();
        outermostGroup();
        selectNoShape();
        selectEnds();
        selectAgain();
        selectTogether();
        selectedEnds();
        fewerThanTwoUnits();
        twoUnits();
        twentyUnits();
        stateBeforeFull();
        ungroupNone();
        ungroupOutermost();
        ungroupInner();
        ungroupSingleMember();
        staysSelected();
        shapesOfNone();
        shapesOfEnds();
        orderOfUnits();
        Due.finish();
    }

    /** Groups of shapes 0 and 1, 2 and 3, and so on; the next two are selected. */
    private static DiagramDesk pairs(int groups) {
        DiagramDesk desk = Due.deskWith(20);
        for (int k = 0; k < groups; k++) {
            States.choose(desk, 2 * k, 2 * k + 1);
            Due.due("group", desk.group(), k);
        }
        States.choose(desk, 2 * groups, 2 * groups + 1);
        return desk;
    }

    /** Group 0 has shapes 0 and 1, each next one the group before it and one more shape; all are selected. */
    private static DiagramDesk chain(int groups) {
        DiagramDesk desk = Due.deskWith(groups + 1);
        desk.select(0, true);
        for (int k = 0; k < groups; k++) {
            desk.select(k + 1, true);
            Due.due("group", desk.group(), k);
        }
        return desk;
    }

    // "There are at most 8 groups at the same time", "numbers from 0 to 7"; "FULL if there are 8 groups"
    private static void eightGroups() {
        Edge.act("the first group", () -> pairs(0), desk -> desk.group(), 0);
        Edge.act("the eighth group", () -> pairs(7), desk -> desk.group(), 7);
        Edge.still("one more", () -> pairs(8), desk -> desk.group(), FULL);
        Edge.still("one more on a full desk", States::full, desk -> desk.group(), FULL);
        DiagramDesk nested = chain(8);
        nested.addShape(0, 0, 0, 1, 1);
        nested.select(9, true);
        Due.due("nested ones count, too", nested.group(), FULL);
    }

    // "a new group gets the smallest number that is free"
    private static void smallestFreeNumber() {
        DiagramDesk desk = pairs(8);
        for (int group : new int[] {7, 2, 5, 0}) {
            Due.due("ungroup", desk.ungroup(group), 2);
        }
        int[][] pairs = {{14, 15}, {4, 5}, {10, 11}, {0, 1}};
        int[] want = {0, 2, 5, 7};
        for (int k = 0; k < 4; k++) {
            States.choose(desk, pairs[k]);
            Due.due("the smallest free number", desk.group(), want[k]);
        }
        States.choose(desk, 16, 17);
        Due.due("none is free", desk.group(), FULL);
    }

    private static void endedByRemoval() {
        DiagramDesk desk = pairs(8);
        desk.removeShape(6);
        Due.due("still 8 groups", desk.group(), FULL);
        desk.removeShape(7);
        Due.due("the group without shapes left its number", desk.group(), 3);
    }

    // "each shape and each group is a member of at most one group"
    private static void memberOfOne() {
        DiagramDesk desk = chain(2);
        Due.due("a member of the first one", desk.shape(0, 7), 0);
        Due.due("a member of the second one", desk.shape(2, 7), 1);
        Due.due("members of the second one", desk.ungroup(1), 2);
        Due.due("members of the first one", desk.ungroup(0), 2);
    }

    // "A group without shapes does not exist"
    private static void withoutShapes() {
        DiagramDesk desk = pairs(1);
        desk.removeShape(0);
        Due.due("with one shape", desk.shapesOf(0), 2);
        desk.removeShape(1);
        Due.due("without shapes", desk.shapesOf(0), BAD);
        Due.due("without shapes", desk.ungroup(0), BAD);
    }

    private static void allWithoutShapesAtOnce() {
        DiagramDesk desk = chain(8);
        for (int shape = 1; shape < 9; shape++) {
            desk.removeShape(shape);
        }
        for (int group = 0; group < 8; group++) {
            Due.due("eight groups around one shape", desk.shapesOf(group), 1);
        }
        Due.due("its group", desk.shape(0, 7), 0);
        Due.due("its outermost group", desk.shape(0, 8), 7);
        Due.due("removeShape", desk.removeShape(0), 0);
        for (int group = 0; group < 8; group++) {
            Due.due("no group around none", desk.shapesOf(group), BAD);
        }
        desk.undo();
        Due.due("all come back", desk.shape(0, 8), 7);
    }

    // "one with a single member can": a shape or a group
    private static void singleMember() {
        DiagramDesk desk = chain(2);
        desk.removeShape(2);
        Due.due("a group as the single member", desk.shapesOf(1), 3);
        desk.removeShape(1);
        Due.due("a shape as the single member", desk.shapesOf(0), 1);
        desk.addShape(0, 0, 0, 1, 1);
        desk.select(3, true);
        Due.due("it is a unit", desk.group(), 2);
        Due.due("with its shape", desk.shapesOf(2), 9);
    }

    // "The outermost group of a shape is the one that contains it and is no member of a group"
    private static void outermostGroup() {
        DiagramDesk desk = chain(8);
        for (int shape = 0; shape < 9; shape++) {
            Due.due("outermost of 8", desk.shape(shape, 8), 7);
        }
        desk.ungroup(7);
        Due.due("outermost of 7", desk.shape(0, 8), 6);
        Due.due("outside now", desk.shape(8, 8), NONE);
        desk.ungroup(0);
        Due.due("one deep inside is gone", desk.shape(0, 7), 1);
        Due.due("the outermost stays", desk.shape(0, 8), 6);
    }

    // select: "BAD if there is no such shape"
    private static void selectNoShape() {
        Edge.noShape("select", (desk, k) -> desk.select(k, true), BAD);
        Edge.noShape("select off", (desk, k) -> desk.select(k, false), BAD);
    }

    // "Returns the number of selected shapes": from 0 to 20
    private static void selectEnds() {
        DiagramDesk desk = Due.deskWith(20);
        for (int k = 19; k >= 0; k--) {
            Due.due("select", desk.select(k, true), 20 - k);
        }
        Due.due("all", desk.selected(), (1 << 20) - 1);
        for (int k = 0; k < 20; k++) {
            Due.due("select off", desk.select(k, false), 19 - k);
        }
        Due.due("none", desk.selected(), 0);
    }

    private static void selectAgain() {
        Edge.act("select a selected one", States::busy, desk -> desk.select(6, true), 6);
        Edge.act("select off one that is not selected", States::busy, desk -> desk.select(7, false), 6);
        Edge.act("select off where nothing is selected", () -> Due.deskWith(1), desk -> desk.select(0, false), 0);
    }

    // "if a shape is in a group, all shapes of its outermost group are selected or not selected together"
    private static void selectTogether() {
        Edge.act("select off a whole group", States::busy, desk -> desk.select(1, false), 3);
        Edge.act("select off another one", States::busy, desk -> desk.select(5, false), 4);
        for (int shape = 0; shape < 9; shape++) {
            int one = shape;
            DiagramDesk desk = chain(8);
            Due.due("select off the outermost group", desk.select(one, false), 0);
            Due.due("select the outermost group", desk.select(one, true), 9);
        }
    }

    private static void selectedEnds() {
        Edge.still("selected, nothing", DiagramDesk::new, desk -> desk.selected(), 0);
        Edge.still("selected, some", States::busy, desk -> desk.selected(), 0b1111011);
        Edge.still("selected, only the first", () -> States.chosen(new int[] {0, 0}), desk -> desk.selected(), 1);
        DiagramDesk last = Due.deskWith(20);
        last.select(19, true);
        Due.due("selected, only the last", last.selected(), 1 << 19);
    }

    // group: "STATE if there are fewer than two units"
    private static void fewerThanTwoUnits() {
        Edge.still("group on an empty desk", DiagramDesk::new, desk -> desk.group(), STATE);
        Edge.still("group of nothing", () -> Due.deskWith(3), desk -> desk.group(), STATE);
        Edge.still("group of one shape", () -> States.chosen(new int[] {0, 0}), desk -> desk.group(), STATE);
        Edge.still("group of one group with many shapes", () -> chain(7), desk -> desk.group(), STATE);
    }

    private static void twoUnits() {
        Edge.act("group of two shapes", () -> pairs(1), desk -> desk.group(), 1);
        DiagramDesk groups = pairs(3);
        States.choose(groups, 0, 5);
        Due.due("group of two groups", groups.group(), 3);
        Due.due("its shapes", groups.shapesOf(3), 0b110011);
        Due.due("its members", groups.ungroup(3), 2);
        Edge.act("group of two groups and a shape", States::busy, desk -> desk.group(), 2);
    }

    private static void twentyUnits() {
        DiagramDesk desk = Due.deskWith(20);
        for (int k = 0; k < 20; k++) {
            desk.select(k, true);
        }
        Due.due("group of all", desk.group(), 0);
        Due.due("its shapes", desk.shapesOf(0), (1 << 20) - 1);
        Due.due("its members", desk.ungroup(0), 20);
    }

    private static DiagramDesk fullWithOneUnit() {
        DiagramDesk desk = States.full();
        desk.select(17, false);
        return desk;
    }

    // "STATE if ..; FULL if ..", with "the one listed first is returned"
    private static void stateBeforeFull() {
        Edge.still("group of one unit, and full", SelectionEdgesTest::fullWithOneUnit, desk -> desk.group(), STATE);
    }

    // ungroup: "BAD if there is no such group"
    private static void ungroupNone() {
        Edge.noGroup("ungroup", (desk, k) -> desk.ungroup(k), BAD);
    }

    // "its members are members of the group whose member it was, if there is one": there is none
    private static void ungroupOutermost() {
        Edge.act("ungroup the outermost", States::busy, desk -> desk.ungroup(1), 2);
        Edge.act("ungroup the last of 8", States::full, desk -> desk.ungroup(7), 2);
        DiagramDesk desk = States.busy();
        desk.ungroup(1);
        Due.due("a shape that was a member", desk.shape(3, 7), NONE);
        Due.due("a group that was a member", desk.shape(0, 8), 0);
    }

    // There is one: the group around it, and that one only.
    private static void ungroupInner() {
        Edge.act("ungroup an inner one", States::busy, desk -> desk.ungroup(0), 2);
        DiagramDesk desk = chain(8);
        Due.due("ungroup one between", desk.ungroup(4), 2);
        Due.due("its shape", desk.shape(5, 7), 5);
        Due.due("a shape of its group", desk.shape(4, 7), 3);
        Due.due("the outermost", desk.shape(4, 8), 7);
        Due.due("the group around it has one member more", desk.ungroup(5), 3);
    }

    private static void ungroupSingleMember() {
        DiagramDesk desk = chain(1);
        desk.removeShape(0);
        Due.due("ungroup with one member", desk.ungroup(0), 1);
        Due.due("that is free", desk.shape(1, 7), NONE);
    }

    // "What is selected stays selected"
    private static void staysSelected() {
        DiagramDesk desk = States.busy();
        int selected = desk.selected();
        desk.ungroup(1);
        Due.due("selected as before", desk.selected(), selected);
        States.choose(desk, 6);
        desk.ungroup(3);
        Due.due("not selected as before", desk.selected(), 1 << 6);
        Due.due("each one by itself now", desk.select(4, true), 2);
    }

    // shapesOf: "BAD if there is no such group"
    private static void shapesOfNone() {
        Edge.noGroup("shapesOf", (desk, k) -> desk.shapesOf(k), BAD);
    }

    // "the set, bit k for shape k": shape 0 and shape 19; group 0 and group 7
    private static void shapesOfEnds() {
        DiagramDesk desk = Due.deskWith(20);
        States.choose(desk, 0, 19);
        desk.group();
        Due.due("the first and the last shape", desk.shapesOf(0), 1 | 1 << 19);
        desk.removeShape(0);
        Due.due("the last shape", desk.shapesOf(0), 1 << 19);
        Edge.still("the first group of 8", States::full, d -> d.shapesOf(0), 3);
        Edge.still("the last group of 8", States::full, d -> d.shapesOf(7), 3 << 14);
        Edge.still("a group in a group", States::busy, d -> d.shapesOf(0), 3);
        Edge.still("the group around it", States::busy, d -> d.shapesOf(1), 11);
    }

    // "Units are ordered by the smallest number of their shapes": a group by its smallest one
    private static void orderOfUnits() {
        DiagramDesk desk = new DiagramDesk();
        int[] widths = {10, 20, 30, 40};
        for (int k = 0; k < 4; k++) {
            desk.addShape(0, 0, 0, widths[k], 10);
        }
        States.choose(desk, 0, 3);
        desk.group();
        desk.select(1, true);
        desk.select(2, true);
        // The group is the first one and shape 2 the last: 0 - 40 - 20 = -60 in two gaps.
        Due.due("distribute", desk.distribute(0), -60);
        Due.due("the one between", desk.shape(1, 1), 10);
        Due.due("the group stays", desk.shape(3, 1), 0);
        Due.due("the last one stays", desk.shape(2, 1), 0);
    }
}
