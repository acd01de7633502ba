/** Promises 20 to 24: move, drag, correction, align, distribute. */
public final class MovingTest {
    private static final int NONE = DiagramDesk.NONE;

    public static void main(String[] args) {
        move();
        moveOutside();
        wrongWays();
        guidesFirst();
        centersAndSides();
        ties();
        grid();
        dragBoth();
        dragOutside();
        align();
        alignGroups();
        alignOutside();
        distribute();
        distributeOverlapping();
        distributeTies();
        distributeErrors();
        Due.finish();
    }

    private static void places(DiagramDesk desk, String call, int what, int... want) {
        for (int k = 0; k < want.length; k++) {
            Due.due(call + ": shape " + k, desk.shape(k, what), want[k]);
        }
    }

    private static void selectAll(DiagramDesk desk, int count) {
        for (int k = 0; k < count; k++) {
            desk.select(k, true);
        }
    }

    private static void move() {
        DiagramDesk desk = Due.deskWith(4);
        desk.connect(0, 1, 1, 3, 0);
        desk.connect(1, 1, 2, 3, 0);
        desk.connect(2, 1, 3, 3, 0);
        desk.connect(0, 0, 3, 0, 0);
        Due.due("move nothing", desk.move(1, 1), -2);
        desk.select(0, true);
        Due.due("move one, with the first and the last connector", desk.move(0, 0), 2);
        desk.select(0, false);
        desk.select(3, true);
        Due.due("move another one", desk.move(0, 0), 2);
        desk.select(3, false);
        selectAll(desk, 2);
        Due.due("move", desk.move(7, -9), 2);
        places(desk, "move x", 1, 7, 107, 200, 300);
        places(desk, "move y", 2, -9, -9, 0, 0);
        Due.due("move by nothing", desk.move(0, 0), 2);
        selectAll(desk, 4);
        Due.due("move all", desk.move(-7, 9), 0);
        places(desk, "move all", 1, 0, 100, 193, 293);
    }

    private static void moveOutside() {
        DiagramDesk desk = Due.deskWith(2);
        selectAll(desk, 2);
        Due.due("move to the right end", desk.move(9900, 0), 0);
        Due.due("move beyond it", desk.move(1, 0), -4);
        Due.due("move beyond it downward too", desk.move(-1, 10001), -4);
        places(desk, "errors change nothing", 1, 9900, 10000);
        Due.due("move to the left end", desk.move(-19900, 0), 0);
        Due.due("move beyond it", desk.move(-1, 0), -4);
        Due.due("move to the bottom end", desk.move(0, 10000), 0);
        Due.due("move to the top end", desk.move(0, -20000), 0);
        Due.due("move beyond it", desk.move(0, -1), -4);
    }

    private static void wrongWays() {
        DiagramDesk desk = Due.deskWith(1);
        for (int far : new int[] {-20001, 20001, Integer.MIN_VALUE, Integer.MAX_VALUE}) {
            Due.due("move: BAD before STATE", desk.move(far, 0), -1);
            Due.due("move: dy", desk.move(0, far), -1);
            Due.due("drag: BAD before STATE", desk.drag(far, 0), -1);
            Due.due("drag: dy", desk.drag(0, far), -1);
        }
        Due.due("drag nothing", desk.drag(0, 0), -2);
        Due.due("correction of nothing", desk.correction(0, 0, 0), NONE);
        desk.select(0, true);
        for (int far : new int[] {-20001, 20001, Integer.MIN_VALUE, Integer.MAX_VALUE}) {
            Due.due("move: BAD", desk.move(far, 0), -1);
            Due.due("drag: BAD", desk.drag(0, far), -1);
            Due.due("correction: dx", desk.correction(far, 0, 1), NONE);
            Due.due("correction: dy", desk.correction(0, far, 0), NONE);
            Due.due("correction: axis", desk.correction(0, 0, far), NONE);
        }
        Due.due("correction: axis 2", desk.correction(0, 0, 2), NONE);
        Due.due("correction: axis -1", desk.correction(0, 0, -1), NONE);
        Due.due("correction of a far way", desk.correction(20000, -20000, 0), 0);
        Due.due("move too far", desk.move(20000, 0), -4);
        Due.due("drag too far", desk.drag(0, -20000), -4);
    }

    /** The selection has its lines at 0, 25 and 50. */
    private static void guidesFirst() {
        DiagramDesk desk = Due.deskWith(1);
        desk.addShape(0, 200, 200, 31, 31);
        desk.select(0, true);
        desk.addGuide(0, 100);
        Due.due("the left on a guide", desk.correction(97, 0, 0), 3);
        Due.due("the center on a guide", desk.correction(77, 0, 0), -2);
        Due.due("the class of all three is 0", desk.drag(97, 0) + desk.drag(-23, 0) + desk.drag(-23, 0), 120);
        Due.due("by the right at last", desk.shape(0, 1), 50);
        desk.move(-50, 0);
        Due.due("the right on a guide", desk.correction(55, 0, 0), -5);
        Due.due("farther than the tolerance", desk.correction(56, 0, 0), 0);
        Due.due("no guide of the other axis", desk.correction(0, 97, 1), 0);
        // At 151 the right comes to 201: the left of the other one is nearer than the guide.
        desk.addGuide(0, 206);
        Due.due("a guide before a nearer side", desk.correction(151, 0, 0), 5);
        Due.due("the class of a guide is 0, none is 4", desk.drag(152, 0), 40);
        Due.due("it stands at the guide", desk.shape(0, 1), 156);
        desk.undo();
        Due.due("and not after undo", desk.shape(0, 1), 0);
        desk.addGuide(0, 204);
        Due.due("the nearer guide", desk.correction(152, 0, 0), 2);
        desk.setTolerance(1);
        Due.due("a side, if the guides are too far", desk.correction(151, 0, 0), -1);
    }

    /** The other one has its lines at 200, 215 and 231. */
    private static void centersAndSides() {
        DiagramDesk desk = Due.deskWith(1);
        desk.addShape(0, 200, 200, 31, 31);
        desk.select(0, true);
        Due.due("center on center", desk.correction(193, 0, 0), -3);
        Due.due("center on center, y", desk.correction(0, 187, 1), 3);
        Due.due("left on left", desk.correction(204, 0, 0), -4);
        Due.due("left on right", desk.correction(228, 0, 0), 3);
        Due.due("right on left", desk.correction(147, 0, 0), 3);
        Due.due("right on right", desk.correction(181, 0, 0), 0);
        Due.due("center on a side is none", desk.correction(175, 0, 0), 0);
        Due.due("left on center is none", desk.correction(215, 0, 0), 0);
        Due.due("drag on the center", desk.drag(187, 204), 21);
        Due.due("its x", desk.shape(0, 1), 190);
        Due.due("its y", desk.shape(0, 2), 200);
        desk.select(0, false);
        desk.select(1, true);
        Due.due("an aim at shape 0", desk.correction(13, -1, 0), -4);
        Due.due("an aim at shape 0", desk.correction(13, -1, 1), 1);
        desk.select(0, true);
        Due.due("no aim at selected shapes", desk.drag(3, 3), 44);
        // Both went 3 further: the left comes to 236, a multiple of 2, but the right of the other one is 234.
        desk.select(1, false);
        desk.setGrid(2);
        Due.due("a side before the nearer grid", desk.correction(43, 0, 0), -2);
    }

    private static void ties() {
        DiagramDesk desk = Due.deskWith(1);
        desk.select(0, true);
        desk.addGuide(0, 104);
        desk.addGuide(0, 96);
        desk.addGuide(0, 96);
        Due.due("of two as near the negative one", desk.correction(100, 0, 0), -4);
        desk.clearGuides();
        desk.addGuide(1, 96);
        desk.addGuide(1, 104);
        Due.due("in the other order too", desk.correction(0, 100, 1), -4);
        Due.due("not for x", desk.correction(100, 0, 0), 0);
        desk.setGrid(8);
        Due.due("and for the grid", desk.correction(100, 0, 0), -4);
        Due.due("and for negative places", desk.correction(-100, 0, 0), -4);
    }

    private static void grid() {
        DiagramDesk desk = Due.deskWith(1);
        desk.select(0, true);
        desk.setGrid(100);
        Due.due("grid: near", desk.correction(103, 0, 0), -3);
        Due.due("grid: below", desk.correction(0, 197, 1), 3);
        Due.due("grid: too far", desk.correction(106, 0, 0), 0);
        Due.due("grid: negative", desk.correction(-103, 0, 0), 3);
        Due.due("grid: negative", desk.correction(-97, 0, 0), -3);
        Due.due("grid: just there", desk.drag(-200, 106), 43);
        desk.setTolerance(50);
        Due.due("grid: half", desk.correction(50, 0, 0), -50);
        Due.due("grid: more than half", desk.correction(51, 0, 0), 49);
        desk.setGrid(0);
        Due.due("no grid", desk.correction(51, 0, 0), 0);
        desk.setGrid(1);
        Due.due("grid of 1", desk.drag(13, 17), 33);
        desk.setTolerance(0);
        desk.setGrid(7);
        Due.due("tolerance 0: there", desk.drag(-desk.shape(0, 1) + 14, -desk.shape(0, 2)), 33);
        Due.due("tolerance 0: 1 beside", desk.drag(1, 7), 34);
    }

    private static void dragBoth() {
        DiagramDesk desk = Due.deskWith(2);
        desk.connect(0, 1, 1, 3, 0);
        desk.addShape(0, 400, 400, 50, 50);
        selectAll(desk, 2);
        desk.addGuide(0, 1000);
        // The box of both is 150 wide, so its right comes to 1003 and its center to 928.
        Due.due("drag by the whole box", desk.drag(853, 397), 10);
        places(desk, "drag", 1, 850, 950, 400);
        places(desk, "drag", 2, 400, 400, 400);
        Due.due("each axis has its own way", desk.correction(3, -2, 0), -3);
        Due.due("each axis has its own way", desk.correction(3, -2, 1), 2);
    }

    private static void dragOutside() {
        DiagramDesk desk = Due.deskWith(1);
        desk.select(0, true);
        desk.addGuide(0, 10000);
        desk.addGuide(0, -10000);
        Due.due("outside, but corrected", desk.drag(10005, 0), 40);
        Due.due("at the end", desk.shape(0, 1), 10000);
        Due.due("and too far", desk.drag(6, 0), -4);
        Due.due("and not corrected", desk.shape(0, 1), 10000);
        desk.setGrid(7);
        Due.due("y inside, but corrected to 10003", desk.drag(0, 10000), -4);
        Due.due("correction tells it though", desk.correction(0, 10000, 1), 3);
        Due.due("correction changes nothing", desk.shape(0, 2), 0);
    }

    private static DiagramDesk scattered() {
        DiagramDesk desk = new DiagramDesk();
        desk.addShape(0, 10, 5, 20, 10);
        desk.addShape(1, 45, -31, 11, 40);
        desk.addShape(2, -7, 60, 30, 21);
        return desk;
    }

    /** The box of all is from (-7, -31) to (56, 81), its center (24, 25). */
    private static void align() {
        int[][] want = {{-7, -7, -7}, {14, 19, 9}, {36, 45, 26}, {-31, -31, -31}, {20, 5, 15}, {71, 41, 60}};
        int[] moved = {2, 3, 2, 2, 3, 2};
        for (int line = 0; line < 6; line++) {
            DiagramDesk desk = scattered();
            Due.due("align nothing", desk.align(line), -2);
            desk.select(1, true);
            Due.due("align one", desk.align(line), -2);
            selectAll(desk, 3);
            Due.due("align " + line, desk.align(line), moved[line]);
            places(desk, "align " + line, 1 + line / 3, want[line]);
            Due.due("the other axis", desk.shape(1, 2 - line / 3), line < 3 ? -31 : 45);
            Due.due("align again", desk.align(line), 0);
        }
        DiagramDesk desk = scattered();
        for (int line : new int[] {Integer.MIN_VALUE, -1, 6, Integer.MAX_VALUE}) {
            Due.due("align: BAD before STATE", desk.align(line), -1);
        }
    }

    /** Shapes 0 and 2 are one unit, with the box (-7, 5) to (30, 81), its center (11, 43). */
    private static void alignGroups() {
        DiagramDesk desk = scattered();
        desk.select(0, true);
        desk.select(2, true);
        desk.group();
        Due.due("align one group", desk.align(0), -2);
        desk.select(1, true);
        Due.due("align a group and a shape", desk.align(1), 2);
        places(desk, "align a group and a shape", 1, 23, 19, 6);
        Due.due("align to the bottom", desk.align(5), 1);
        places(desk, "align to the bottom", 2, 5, 41, 60);
    }

    private static void alignOutside() {
        DiagramDesk desk = new DiagramDesk();
        desk.addShape(0, 9990, 9990, 500, 500);
        desk.addShape(0, 0, 0, 490, 489);
        selectAll(desk, 2);
        Due.due("align to the right end", desk.align(2), 1);
        Due.due("it stands at the end", desk.shape(1, 1), 10000);
        Due.due("align beyond the bottom end", desk.align(5), -4);
        Due.due("errors change nothing", desk.shape(1, 2), 0);
        desk.undo();
        Due.due("errors are no acts", desk.shape(1, 1), 0);

        DiagramDesk first = new DiagramDesk();
        first.addShape(0, 0, 0, 489, 5);
        first.addShape(0, 9990, 0, 500, 5);
        selectAll(first, 2);
        Due.due("align the first one beyond the end", first.align(2), -4);
        Due.due("errors change nothing", first.shape(0, 1), 0);
    }

    /** Sizes 10, 20, 30 and 40, from 0 to 200: 200 - 40 - 10 - 50 = 100 and three gaps 34, 33 and 33. */
    private static void distribute() {
        for (int axis = 0; axis < 2; axis++) {
            DiagramDesk desk = new DiagramDesk();
            int[] starts = {150, 160, 0, 40};
            int[] sizes = {20, 40, 10, 30};
            for (int k = 0; k < 4; k++) {
                desk.addShape(0, axis == 0 ? starts[k] : 7, axis == 0 ? 7 : starts[k],
                        axis == 0 ? sizes[k] : 9, axis == 0 ? 9 : sizes[k]);
            }
            selectAll(desk, 4);
            // What an alignment planned must not be left over.
            desk.align(axis == 0 ? 0 : 3);
            desk.undo();
            Due.due("distribute", desk.distribute(axis), 100);
            places(desk, "distribute", 1 + axis, 107, 160, 0, 44);
            places(desk, "the other axis", 2 - axis, 7, 7, 7, 7);
            Due.due("distribute again", desk.distribute(axis), 100);
            places(desk, "distribute again", 1 + axis, 107, 160, 0, 44);
        }
    }

    /** 20 - 50 - 50 - 60 = -140 in three gaps: -46, -47 and -47, as the rest is 1. */
    private static void distributeOverlapping() {
        DiagramDesk desk = new DiagramDesk();
        desk.addShape(0, 0, 0, 50, 5);
        desk.addShape(0, 5, 0, 50, 5);
        desk.addShape(0, 10, 0, 60, 5);
        desk.addShape(0, 20, 0, 10, 5);
        selectAll(desk, 4);
        Due.due("distribute overlapping ones", desk.distribute(0), -140);
        places(desk, "distribute overlapping ones", 1, 0, 4, 7, 20);
    }

    private static void distributeTies() {
        DiagramDesk desk = new DiagramDesk();
        desk.addShape(0, 0, 0, 10, 5);
        desk.addShape(0, 30, 0, 8, 5);
        desk.addShape(0, 30, 0, 4, 5);
        desk.addShape(0, 100, 0, 10, 5);
        desk.addShape(0, 100, 0, 20, 5);
        selectAll(desk, 5);
        // Equal ones as they are ordered, so that the last is shape 4: 100 - 10 - 8 - 4 - 10 = 68.
        Due.due("distribute equal ones", desk.distribute(0), 68);
        places(desk, "distribute equal ones", 1, 0, 27, 52, 73, 100);

        DiagramDesk groups = new DiagramDesk();
        groups.addShape(0, 0, 0, 10, 5);
        groups.addShape(0, 60, 0, 10, 5);
        groups.addShape(0, 30, 0, 10, 5);
        groups.addShape(0, 200, 0, 10, 5);
        groups.select(1, true);
        groups.select(2, true);
        groups.group();
        selectAll(groups, 4);
        // The group is from 30 to 70 as a whole: 200 - 10 - 40 = 150, and it comes to 85.
        Due.due("distribute groups", groups.distribute(0), 150);
        places(groups, "distribute groups", 1, 0, 115, 85, 200);
    }

    private static void distributeErrors() {
        DiagramDesk desk = Due.deskWith(3);
        for (int axis : new int[] {Integer.MIN_VALUE, -1, 2, Integer.MAX_VALUE}) {
            Due.due("distribute: axis", desk.distribute(axis), NONE);
        }
        selectAll(desk, 2);
        Due.due("distribute two", desk.distribute(0), NONE);

        // The space is -401, so that the middle one would come to 10400 - 200.
        DiagramDesk far = new DiagramDesk();
        far.addShape(0, 9900, 0, 500, 5);
        far.addShape(0, 9950, 0, 1, 5);
        far.addShape(0, 10000, 0, 1, 5);
        selectAll(far, 3);
        Due.due("distribute outside", far.distribute(0), NONE);
        places(far, "errors change nothing", 1, 9900, 9950, 10000);
        Due.due("the three selections alone are in the history", far.undo(), 5);
        far.undo();
        Due.due("errors are no acts", far.selected(), 1);
    }
}
