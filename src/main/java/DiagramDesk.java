/**
 * A diagram editor of at most twenty shapes, without a screen: every call is answered with a number.
 * All rows are made when the object is made and used again, so that no call makes anything.
 */
public final class DiagramDesk {
    public static final int BAD = -1;
    public static final int STATE = -2;
    public static final int FULL = -3;
    public static final int OUTSIDE = -4;
    public static final int NONE = -1000000;

    private static final int MOST_SHAPES = 20;
    private static final int MOST_CONNECTORS = 20;
    private static final int MOST_GROUPS = 8;
    private static final int MOST_GUIDES = 10;
    private static final int MOST_STATES = 6;
    private static final int MOST_CHARACTERS = 60;
    private static final int FARTHEST = 10000;
    private static final int LARGEST = 500;
    private static final int FARTHEST_POINT = 100000;
    private static final int LONGEST_WAY = 20000;
    private static final int COARSEST_GRID = 100;
    private static final int WIDEST_TOLERANCE = 50;
    private static final int ELLIPSE = 1;
    private static final int DIAMOND = 2;
    private static final int X = 0;
    private static final int Y = 1;

    private final Diagram now;
    private final History history;
    private final Text text;
    private final Units units;
    private final Snap snap;

    public DiagramDesk() {
        now = new Diagram();
        history = new History();
        text = new Text();
        units = new Units();
        snap = new Snap();
    }

    // ---- shapes

    public int addShape(int kind, int x, int y, int width, int height) {
        if (!isWithin(kind, 0, DIAMOND) || !isCoordinate(x) || !isCoordinate(y)) {
            return BAD;
        }
        if (!isSize(width) || !isSize(height)) {
            return BAD;
        }
        if (now.shapes.added >= MOST_SHAPES) {
            return FULL;
        }
        history.keep(now);
        return now.shapes.add(kind, x, y, width, height);
    }

    public int removeShape(int shape) {
        if (now.shapes.find(shape) == null) {
            return BAD;
        }
        history.keep(now);
        return now.dropShape(shape);
    }

    public int resize(int shape, int width, int height) {
        Shape found = now.shapes.find(shape);
        if (found == null || !isSize(width) || !isSize(height)) {
            return BAD;
        }
        history.keep(now);
        found.width = width;
        found.height = height;
        return now.connectors.countAt(shape);
    }

    public int shape(int shape, int what) {
        Shape found = now.shapes.find(shape);
        if (found == null) {
            return NONE;
        }
        switch (what) {
            case 0: return found.kind;
            case 1: return found.left;
            case 2: return found.top;
            case 3: return found.width;
            case 4: return found.height;
            case 5: return hasBit(now.shapes.chosen, shape) ? 1 : 0;
            case 6: return found.depth;
            case 7: return found.home;
            case 8: return now.groups.outermost(found.home);
            default: return NONE;
        }
    }

    public int port(int shape, int port, int axis) {
        Shape found = now.shapes.find(shape);
        if (found == null || !isPort(port) || !isAxis(axis)) {
            return NONE;
        }
        return found.portPlace(port, axis);
    }

    public int bring(int shape, boolean front) {
        Shape found = now.shapes.find(shape);
        if (found == null) {
            return BAD;
        }
        history.keep(now);
        int previous = found.depth;
        now.shapes.putAtDepth(found, front ? 0 : now.shapes.count() - 1);
        return previous;
    }

    public int at(int x, int y) {
        if (!isWithin(x, -FARTHEST_POINT, FARTHEST_POINT) || !isWithin(y, -FARTHEST_POINT, FARTHEST_POINT)) {
            return BAD;
        }
        return now.shapes.frontmostOn(x, y);
    }

    // ---- connectors

    public int connect(int from, int fromPort, int to, int toPort, int style) {
        if (now.shapes.find(from) == null || now.shapes.find(to) == null || from == to) {
            return BAD;
        }
        if (!isPort(fromPort) || !isPort(toPort) || !isWithin(style, 0, 2)) {
            return BAD;
        }
        if (now.connectors.count >= MOST_CONNECTORS) {
            return FULL;
        }
        history.keep(now);
        return now.connectors.add(from, fromPort, to, toPort, style);
    }

    public int disconnect(int connector) {
        if (now.connectors.find(connector) == null) {
            return BAD;
        }
        history.keep(now);
        now.connectors.drop(connector);
        return now.connectors.count;
    }

    public int connectors() {
        return now.connectors.count;
    }

    public int point(int connector, int k, int axis) {
        Connector found = now.connectors.find(connector);
        if (found == null || !isWithin(k, 0, found.lastPoint()) || !isAxis(axis)) {
            return NONE;
        }
        return found.place(now.shapes, k, axis);
    }

    public int length(int connector) {
        Connector found = now.connectors.find(connector);
        return found == null ? BAD : found.extent(now.shapes);
    }

    public int through(int connector) {
        Connector found = now.connectors.find(connector);
        return found == null ? BAD : found.crossed(now.shapes);
    }

    // ---- selection, groups

    public int select(int shape, boolean on) {
        Shape found = now.shapes.find(shape);
        if (found == null) {
            return BAD;
        }
        history.keep(now);
        int together = now.unitOf(shape, found);
        if (on) {
            now.shapes.chosen |= together;
        } else {
            now.shapes.chosen &= ~together;
        }
        return Integer.bitCount(now.shapes.chosen);
    }

    public int selected() {
        return now.shapes.chosen;
    }

    public int group() {
        units.gather(now);
        if (units.count < 2) {
            return STATE;
        }
        int number = now.groups.firstFree();
        if (number == NONE) {
            return FULL;
        }
        history.keep(now);
        now.joinChosen(number);
        return number;
    }

    public int ungroup(int group) {
        if (!now.groups.has(group)) {
            return BAD;
        }
        history.keep(now);
        return now.endGroup(group);
    }

    public int shapesOf(int group) {
        return now.groups.has(group) ? now.shapesIn(group) : BAD;
    }

    // ---- moving

    public int move(int dx, int dy) {
        if (!isWay(dx) || !isWay(dy)) {
            return BAD;
        }
        if (now.shapes.chosen == 0) {
            return STATE;
        }
        if (!canShiftChosen(dx, dy)) {
            return OUTSIDE;
        }
        history.keep(now);
        shiftChosen(dx, dy);
        return now.connectors.countHalfIn(now.shapes.chosen);
    }

    public int drag(int dx, int dy) {
        if (!isWay(dx) || !isWay(dy)) {
            return BAD;
        }
        if (now.shapes.chosen == 0) {
            return STATE;
        }
        snap.search(now, X, dx);
        int aimOfX = snap.aim;
        int wayX = dx + snap.correction;
        snap.search(now, Y, dy);
        int aimOfY = snap.aim;
        int wayY = dy + snap.correction;
        if (!canShiftChosen(wayX, wayY)) {
            return OUTSIDE;
        }
        history.keep(now);
        shiftChosen(wayX, wayY);
        return aimOfX + 10 * aimOfY;
    }

    public int correction(int dx, int dy, int axis) {
        if (!isWay(dx) || !isWay(dy) || !isAxis(axis) || now.shapes.chosen == 0) {
            return NONE;
        }
        snap.search(now, axis, axis == X ? dx : dy);
        return snap.correction;
    }

    public int align(int line) {
        if (!isWithin(line, 0, 5)) {
            return BAD;
        }
        units.gather(now);
        if (units.count < 2) {
            return STATE;
        }
        int axis = line < 3 ? X : Y;
        units.planAlignment(now.shapes, axis, axis == X ? line : line - 3);
        if (!units.canShift(now.shapes, axis)) {
            return OUTSIDE;
        }
        history.keep(now);
        return units.shift(now.shapes, axis);
    }

    public int distribute(int axis) {
        if (!isAxis(axis)) {
            return NONE;
        }
        units.gather(now);
        if (units.count < 3) {
            return NONE;
        }
        int space = units.planDistribution(now.shapes, axis);
        if (!units.canShift(now.shapes, axis)) {
            return NONE;
        }
        history.keep(now);
        units.shift(now.shapes, axis);
        return space;
    }

    private boolean canShiftChosen(int dx, int dy) {
        int chosen = now.shapes.chosen;
        return now.shapes.canShift(chosen, X, dx) && now.shapes.canShift(chosen, Y, dy);
    }

    private void shiftChosen(int dx, int dy) {
        now.shapes.shift(now.shapes.chosen, X, dx);
        now.shapes.shift(now.shapes.chosen, Y, dy);
    }

    // ---- guides

    public int addGuide(int axis, int at) {
        if (!isAxis(axis) || !isCoordinate(at)) {
            return BAD;
        }
        if (now.guides.count >= MOST_GUIDES) {
            return FULL;
        }
        history.keep(now);
        now.guides.add(axis, at);
        return now.guides.count;
    }

    public int clearGuides() {
        history.keep(now);
        int previous = now.guides.count;
        now.guides.count = 0;
        return previous;
    }

    public int setGrid(int step) {
        if (!isWithin(step, 0, COARSEST_GRID)) {
            return BAD;
        }
        history.keep(now);
        int previous = now.guides.grid;
        now.guides.grid = step;
        return previous;
    }

    public int setTolerance(int tolerance) {
        if (!isWithin(tolerance, 0, WIDEST_TOLERANCE)) {
            return BAD;
        }
        history.keep(now);
        int previous = now.guides.tolerance;
        now.guides.tolerance = tolerance;
        return previous;
    }

    // ---- texts

    public int type(int c) {
        if (!isWithin(c, 32, 126)) {
            return BAD;
        }
        return text.append(c) ? text.count : FULL;
    }

    public int clear() {
        int previous = text.count;
        text.count = 0;
        return previous;
    }

    public int read() {
        int errorPlace = text.parse();
        if (errorPlace != NONE) {
            return -100 - errorPlace;
        }
        if (now.shapes.added + text.shapeCount > MOST_SHAPES) {
            return FULL;
        }
        history.keep(now);
        for (int k = 0; k < text.shapeCount; k++) {
            Shape draft = text.draft(k);
            if (draft != null) {
                now.shapes.add(draft.kind, draft.left, draft.top, draft.width, draft.height);
            }
        }
        text.count = 0;
        return text.shapeCount;
    }

    // ---- history

    public int undo() {
        return history.back(now) ? history.count : NONE;
    }

    public long fingerprint() {
        long sum = 89;
        for (int k = 0; k < MOST_SHAPES; k++) {
            if (now.shapes.find(k) != null) {
                sum = shapeMixed(sum, k);
            }
        }
        sum = mixed(sum, now.connectors.count);
        for (int k = 0; k < now.connectors.count; k++) {
            sum = connectorMixed(sum, k);
        }
        for (int k = 0; k < MOST_GROUPS; k++) {
            if (now.groups.has(k)) {
                sum = mixed(mixed(sum, k), now.shapesIn(k));
            }
        }
        return sum;
    }

    private long shapeMixed(long sum, int shape) {
        long mix = mixed(sum, shape);
        for (int what = 0; what <= 8; what++) {
            mix = mixed(mix, shape(shape, what));
        }
        return mix;
    }

    private long connectorMixed(long sum, int connector) {
        Connector found = now.connectors.find(connector);
        if (found == null) {
            return sum;
        }
        long mix = mixed(sum, found.extent(now.shapes));
        mix = mixed(mix, found.crossed(now.shapes));
        for (int k = 0; k <= found.lastPoint(); k++) {
            mix = mixed(mix, found.place(now.shapes, k, X));
            mix = mixed(mix, found.place(now.shapes, k, Y));
        }
        return mix;
    }

    private static long mixed(long sum, long number) {
        return 31 * sum + number;
    }

    // ---- ranges

    private static boolean isWithin(int value, int least, int most) {
        return value >= least && value <= most;
    }

    private static boolean isCoordinate(int value) {
        return isWithin(value, -FARTHEST, FARTHEST);
    }

    private static boolean isSize(int value) {
        return isWithin(value, 1, LARGEST);
    }

    private static boolean isWay(int value) {
        return isWithin(value, -LONGEST_WAY, LONGEST_WAY);
    }

    private static boolean isPort(int value) {
        return isWithin(value, 0, 3);
    }

    private static boolean isAxis(int value) {
        return value == X || value == Y;
    }

    private static boolean hasBit(int set, int k) {
        return (set >> k & 1) != 0;
    }

    /** One shape: its place, its size, its depth and the group whose member it is. */
    private static final class Shape {
        boolean there;
        int kind;
        int left;
        int top;
        int width;
        int height;
        int depth;
        int home;

        void copy(Shape other) {
            there = other.there;
            kind = other.kind;
            left = other.left;
            top = other.top;
            width = other.width;
            height = other.height;
            depth = other.depth;
            home = other.home;
        }

        int start(int axis) {
            return axis == X ? left : top;
        }

        int size(int axis) {
            return axis == X ? width : height;
        }

        int end(int axis) {
            return start(axis) + size(axis);
        }

        int center(int axis) {
            return start(axis) + Math.floorDiv(size(axis), 2);
        }

        void shift(int axis, int by) {
            if (axis == X) {
                left += by;
            } else {
                top += by;
            }
        }

        int portPlace(int port, int axis) {
            int axisOfSide = port == 1 || port == 3 ? X : Y;
            if (axis != axisOfSide) {
                return center(axis);
            }
            return port == 1 || port == 2 ? end(axis) : start(axis);
        }

        boolean holds(int px, int py) {
            if (kind != ELLIPSE && kind != DIAMOND) {
                return isWithin(px, left, end(X)) && isWithin(py, top, end(Y));
            }
            long a = Math.abs(2L * px - 2L * left - width);
            long b = Math.abs(2L * py - 2L * top - height);
            long w = width;
            long h = height;
            if (kind == ELLIPSE) {
                return a * a * h * h + b * b * w * w <= w * w * h * h;
            }
            return a * h + b * w <= w * h;
        }

        /**
         * Whether the line has a point inside the rectangle. A line and an open rectangle are apart just
         * when an upright line, a level one, or one along the line itself parts them.
         */
        boolean isCrossed(int ax, int ay, int bx, int by) {
            if (Math.max(ax, bx) <= left || Math.min(ax, bx) >= end(X)) {
                return false;
            }
            if (Math.max(ay, by) <= top || Math.min(ay, by) >= end(Y)) {
                return false;
            }
            // An upright or level line, or a point, is parted by those two alone.
            return ax == bx || ay == by || hasCornersOnBothSides(ax, ay, bx, by);
        }

        private boolean hasCornersOnBothSides(int ax, int ay, int bx, int by) {
            long dx = bx - ax;
            long dy = by - ay;
            long byLeft = dy * (left - ax);
            long byRight = dy * (end(X) - ax);
            long byTop = dx * (top - ay);
            long byBottom = dx * (end(Y) - ay);
            long least = Math.min(byTop, byBottom) - Math.max(byLeft, byRight);
            long most = Math.max(byTop, byBottom) - Math.min(byLeft, byRight);
            return least < 0 && most > 0;
        }
    }

    /** The row of shapes by number, and which of them are selected. */
    private static final class Shapes {
        private final Shape[] row = new Shape[MOST_SHAPES];
        // A removed shape leaves its number unused, so this is also the number of the next one.
        int added;
        int chosen;

        Shapes() {
            for (int k = 0; k < row.length; k++) {
                row[k] = new Shape();
            }
        }

        void copy(Shapes other) {
            for (int k = 0; k < row.length && k < other.row.length; k++) {
                if (row[k] != null && other.row[k] != null) {
                    row[k].copy(other.row[k]);
                }
            }
            added = other.added;
            chosen = other.chosen;
        }

        Shape find(int number) {
            if (number < 0 || number >= row.length) {
                return null;
            }
            Shape shape = row[number];
            return shape != null && shape.there ? shape : null;
        }

        int count() {
            int count = 0;
            for (int k = 0; k < row.length; k++) {
                if (find(k) != null) {
                    count++;
                }
            }
            return count;
        }

        int add(int kind, int x, int y, int width, int height) {
            int number = added;
            if (number < 0 || number >= row.length || row[number] == null) {
                return FULL;
            }
            Shape shape = row[number];
            int behindAll = count();
            shape.there = true;
            shape.kind = kind;
            shape.left = x;
            shape.top = y;
            shape.width = width;
            shape.height = height;
            shape.depth = behindAll;
            shape.home = NONE;
            putAtDepth(shape, 0);
            added++;
            return number;
        }

        void drop(int number) {
            Shape shape = find(number);
            if (shape != null) {
                putAtDepth(shape, count() - 1);
                shape.there = false;
                chosen &= ~(1 << number);
            }
        }

        /** Those between the old and the new depth close up behind the shape. */
        void putAtDepth(Shape shape, int depth) {
            int old = shape.depth;
            for (int k = 0; k < row.length; k++) {
                Shape other = find(k);
                if (other == null) {
                    continue;
                }
                if (other.depth >= depth && other.depth < old) {
                    other.depth++;
                } else if (other.depth <= depth && other.depth > old) {
                    other.depth--;
                }
            }
            shape.depth = depth;
        }

        int frontmostOn(int px, int py) {
            int best = NONE;
            int depth = MOST_SHAPES;
            for (int k = 0; k < row.length; k++) {
                Shape shape = find(k);
                if (shape != null && shape.depth < depth && shape.holds(px, py)) {
                    best = k;
                    depth = shape.depth;
                }
            }
            return best;
        }

        /** The left (the top) of the box of a set that has shapes. */
        int low(int set, int axis) {
            int low = Integer.MAX_VALUE;
            for (int k = 0; k < row.length; k++) {
                Shape shape = find(k);
                if (shape != null && hasBit(set, k)) {
                    low = Math.min(low, shape.start(axis));
                }
            }
            return low;
        }

        /** The right (the bottom) of the box of a set that has shapes. */
        int high(int set, int axis) {
            int high = Integer.MIN_VALUE;
            for (int k = 0; k < row.length; k++) {
                Shape shape = find(k);
                if (shape != null && hasBit(set, k)) {
                    high = Math.max(high, shape.end(axis));
                }
            }
            return high;
        }

        /** A line of the box of a set: 0 its left (its top), 1 its center, 2 its right (its bottom). */
        int lineOf(int set, int axis, int line) {
            int low = low(set, axis);
            int high = high(set, axis);
            if (line == 0) {
                return low;
            }
            return line == 2 ? high : low + Math.floorDiv(high - low, 2);
        }

        boolean canShift(int set, int axis, int by) {
            for (int k = 0; k < row.length; k++) {
                Shape shape = find(k);
                if (shape != null && hasBit(set, k) && !isCoordinate(shape.start(axis) + by)) {
                    return false;
                }
            }
            return true;
        }

        void shift(int set, int axis, int by) {
            for (int k = 0; k < row.length; k++) {
                Shape shape = find(k);
                if (shape != null && hasBit(set, k)) {
                    shape.shift(axis, by);
                }
            }
        }
    }

    /** One connector; its points follow its shapes, so they are worked out when they are asked for. */
    private static final class Connector {
        int from;
        int fromPort;
        int to;
        int toPort;
        int style;

        void copy(Connector other) {
            from = other.from;
            fromPort = other.fromPort;
            to = other.to;
            toPort = other.toPort;
            style = other.style;
        }

        boolean isAt(int shape) {
            return from == shape || to == shape;
        }

        int lastPoint() {
            return style + 1;
        }

        int place(Shapes shapes, int k, int axis) {
            Shape start = shapes.find(from);
            Shape end = shapes.find(to);
            if (start == null || end == null) {
                return NONE;
            }
            int first = start.portPlace(fromPort, axis);
            int last = end.portPlace(toPort, axis);
            if (k <= 0) {
                return first;
            }
            if (k >= lastPoint()) {
                return last;
            }
            int axisOfStart = fromPort == 1 || fromPort == 3 ? X : Y;
            if (style == 1) {
                return axis == axisOfStart ? last : first;
            }
            if (axis == axisOfStart) {
                return Math.floorDiv(first + last, 2);
            }
            return k == 1 ? first : last;
        }

        int extent(Shapes shapes) {
            int sum = 0;
            for (int k = 0; k < lastPoint(); k++) {
                sum += Math.abs(place(shapes, k + 1, X) - place(shapes, k, X));
                sum += Math.abs(place(shapes, k + 1, Y) - place(shapes, k, Y));
            }
            return sum;
        }

        int crossed(Shapes shapes) {
            int set = 0;
            for (int part = 0; part < lastPoint(); part++) {
                int ax = place(shapes, part, X);
                int ay = place(shapes, part, Y);
                int bx = place(shapes, part + 1, X);
                int by = place(shapes, part + 1, Y);
                for (int k = 0; k < MOST_SHAPES; k++) {
                    Shape shape = shapes.find(k);
                    if (shape != null && !isAt(k) && shape.isCrossed(ax, ay, bx, by)) {
                        set |= 1 << k;
                    }
                }
            }
            return set;
        }
    }

    /** The row of connectors; those behind a removed one move up. */
    private static final class Connectors {
        private final Connector[] row = new Connector[MOST_CONNECTORS];
        int count;

        Connectors() {
            for (int k = 0; k < row.length; k++) {
                row[k] = new Connector();
            }
        }

        void copy(Connectors other) {
            for (int k = 0; k < row.length && k < other.row.length; k++) {
                if (row[k] != null && other.row[k] != null) {
                    row[k].copy(other.row[k]);
                }
            }
            count = other.count;
        }

        Connector find(int number) {
            if (number < 0 || number >= count || number >= row.length) {
                return null;
            }
            return row[number];
        }

        int add(int from, int fromPort, int to, int toPort, int style) {
            int number = count;
            if (number < 0 || number >= row.length || row[number] == null) {
                return FULL;
            }
            Connector connector = row[number];
            connector.from = from;
            connector.fromPort = fromPort;
            connector.to = to;
            connector.toPort = toPort;
            connector.style = style;
            count++;
            return number;
        }

        void drop(int number) {
            for (int k = number; k + 1 < count; k++) {
                Connector here = find(k);
                Connector next = find(k + 1);
                if (here != null && next != null) {
                    here.copy(next);
                }
            }
            count--;
        }

        int dropAt(int shape) {
            int dropped = 0;
            // From the last one on, for dropping one renumbers those behind it.
            for (int k = row.length - 1; k >= 0; k--) {
                Connector connector = find(k);
                if (connector != null && connector.isAt(shape)) {
                    drop(k);
                    dropped++;
                }
            }
            return dropped;
        }

        int countAt(int shape) {
            int found = 0;
            for (int k = 0; k < row.length; k++) {
                Connector connector = find(k);
                if (connector != null && connector.isAt(shape)) {
                    found++;
                }
            }
            return found;
        }

        int countHalfIn(int set) {
            int found = 0;
            for (int k = 0; k < row.length; k++) {
                Connector connector = find(k);
                if (connector != null && hasBit(set, connector.from) != hasBit(set, connector.to)) {
                    found++;
                }
            }
            return found;
        }
    }

    /** The groups by number, each with the group whose member it is (NONE for an outermost one). */
    private static final class Groups {
        private final boolean[] there = new boolean[MOST_GROUPS];
        private final int[] homes = new int[MOST_GROUPS];

        void copy(Groups other) {
            for (int k = 0; k < MOST_GROUPS; k++) {
                put(k, other.has(k), other.homeOf(k));
            }
        }

        boolean has(int group) {
            return group >= 0 && group < there.length && there[group];
        }

        int homeOf(int group) {
            return has(group) && group < homes.length ? homes[group] : NONE;
        }

        private void put(int group, boolean exists, int home) {
            if (group >= 0 && group < there.length && group < homes.length) {
                there[group] = exists;
                homes[group] = home;
            }
        }

        void add(int group) {
            put(group, true, NONE);
        }

        void drop(int group) {
            put(group, false, NONE);
        }

        void join(int group, int home) {
            if (has(group)) {
                put(group, true, home);
            }
        }

        int firstFree() {
            for (int k = 0; k < there.length; k++) {
                if (!there[k]) {
                    return k;
                }
            }
            return NONE;
        }

        /** The outermost group that contains the members of a group; NONE for the members of none. */
        int outermost(int group) {
            int outer = group;
            for (int step = 0; step < MOST_GROUPS && homeOf(outer) != NONE; step++) {
                outer = homeOf(outer);
            }
            return outer;
        }

        /** Whether what is a member of the group home is among the shapes of a group. */
        boolean isInside(int home, int group) {
            int outer = home;
            for (int step = 0; step < MOST_GROUPS && outer != group && outer != NONE; step++) {
                outer = homeOf(outer);
            }
            return outer == group;
        }
    }

    /** The guides of the user, the grid step and the tolerance. */
    private static final class Guides {
        private final int[] axes = new int[MOST_GUIDES];
        private final int[] places = new int[MOST_GUIDES];
        int count;
        int grid;
        int tolerance = 5;

        void copy(Guides other) {
            count = 0;
            for (int k = 0; k < other.count; k++) {
                if (k < other.axes.length && k < other.places.length) {
                    add(other.axes[k], other.places[k]);
                }
            }
            grid = other.grid;
            tolerance = other.tolerance;
        }

        void add(int axis, int place) {
            if (count >= 0 && count < axes.length && count < places.length) {
                axes[count] = axis;
                places[count] = place;
                count++;
            }
        }

        boolean isOn(int k, int axis) {
            return k >= 0 && k < count && k < axes.length && axes[k] == axis;
        }

        int placeOf(int k) {
            return k >= 0 && k < places.length ? places[k] : NONE;
        }
    }

    /** All that the history keeps of one state. */
    private static final class Diagram {
        final Shapes shapes = new Shapes();
        final Connectors connectors = new Connectors();
        final Groups groups = new Groups();
        final Guides guides = new Guides();

        void copy(Diagram other) {
            shapes.copy(other.shapes);
            connectors.copy(other.connectors);
            groups.copy(other.groups);
            guides.copy(other.guides);
        }

        int shapesIn(int group) {
            int set = 0;
            for (int k = 0; k < MOST_SHAPES; k++) {
                Shape shape = shapes.find(k);
                if (shape != null && groups.isInside(shape.home, group)) {
                    set |= 1 << k;
                }
            }
            return set;
        }

        /** The shapes that are selected together with a shape. */
        int unitOf(int number, Shape shape) {
            int outermost = groups.outermost(shape.home);
            return outermost == NONE ? 1 << number : shapesIn(outermost);
        }

        /** Answers how many connectors went with the shape. */
        int dropShape(int number) {
            shapes.drop(number);
            for (int k = 0; k < MOST_GROUPS; k++) {
                if (groups.has(k) && shapesIn(k) == 0) {
                    groups.drop(k);
                }
            }
            return connectors.dropAt(number);
        }

        void joinChosen(int group) {
            groups.add(group);
            for (int k = 0; k < MOST_SHAPES; k++) {
                Shape shape = shapes.find(k);
                if (shape == null || !hasBit(shapes.chosen, k)) {
                    continue;
                }
                int outermost = groups.outermost(shape.home);
                if (outermost == NONE) {
                    shape.home = group;
                } else if (outermost != group) {
                    groups.join(outermost, group);
                }
            }
        }

        /** Answers how many members the group had. */
        int endGroup(int group) {
            int home = groups.homeOf(group);
            int members = 0;
            for (int k = 0; k < MOST_SHAPES; k++) {
                Shape shape = shapes.find(k);
                if (shape != null && shape.home == group) {
                    shape.home = home;
                    members++;
                }
            }
            for (int k = 0; k < MOST_GROUPS; k++) {
                if (groups.homeOf(k) == group) {
                    groups.join(k, home);
                    members++;
                }
            }
            groups.drop(group);
            return members;
        }
    }

    /** The states before the latest acts, the oldest one first. */
    private static final class History {
        private final Diagram[] past = new Diagram[MOST_STATES];
        int count;

        History() {
            for (int k = 0; k < past.length; k++) {
                past[k] = new Diagram();
            }
        }

        void keep(Diagram state) {
            if (count >= past.length) {
                dropOldest();
            }
            if (count >= 0 && count < past.length && past[count] != null) {
                past[count].copy(state);
                count++;
            }
        }

        /** The row of the oldest state comes to the end, to be written anew. */
        private void dropOldest() {
            Diagram oldest = past.length > 0 ? past[0] : null;
            for (int k = 0; k + 1 < past.length; k++) {
                past[k] = past[k + 1];
            }
            if (past.length > 0) {
                past[past.length - 1] = oldest;
            }
            count--;
        }

        boolean back(Diagram state) {
            int latest = count - 1;
            if (latest < 0 || latest >= past.length || past[latest] == null) {
                return false;
            }
            state.copy(past[latest]);
            count = latest;
            return true;
        }
    }

    /** The units of the selection, each as the set of its shapes, and the way that each one is to go. */
    private static final class Units {
        private final int[] sets = new int[MOST_SHAPES];
        private final int[] ways = new int[MOST_SHAPES];
        int count;

        /** By their smallest shapes, as the shapes are gone through by number. */
        void gather(Diagram diagram) {
            count = 0;
            int gathered = 0;
            for (int k = 0; k < MOST_SHAPES; k++) {
                Shape shape = diagram.shapes.find(k);
                if (shape != null && hasBit(diagram.shapes.chosen & ~gathered, k)) {
                    int set = diagram.unitOf(k, shape);
                    gathered |= set;
                    add(set);
                }
            }
        }

        private void add(int set) {
            if (count >= 0 && count < sets.length) {
                sets[count] = set;
                count++;
            }
        }

        private int setOf(int k) {
            return k >= 0 && k < count && k < sets.length ? sets[k] : 0;
        }

        private int wayOf(int k) {
            return k >= 0 && k < count && k < ways.length ? ways[k] : 0;
        }

        private void putWay(int k, int way) {
            if (k >= 0 && k < ways.length) {
                ways[k] = way;
            }
        }

        private int sizeOf(Shapes shapes, int k, int axis) {
            return shapes.high(setOf(k), axis) - shapes.low(setOf(k), axis);
        }

        void planAlignment(Shapes shapes, int axis, int line) {
            int goal = shapes.lineOf(shapes.chosen, axis, line);
            for (int k = 0; k < count; k++) {
                putWay(k, goal - shapes.lineOf(setOf(k), axis, line));
            }
        }

        /** Answers the space, for three units or more. */
        int planDistribution(Shapes shapes, int axis) {
            sortAlong(shapes, axis);
            int gaps = count - 1;
            int space = shapes.low(setOf(gaps), axis) - shapes.high(setOf(0), axis);
            for (int k = 1; k < gaps; k++) {
                space -= sizeOf(shapes, k, axis);
            }
            int gap = gaps > 0 ? Math.floorDiv(space, gaps) : 0;
            int wider = gaps > 0 ? Math.floorMod(space, gaps) : 0;
            int place = shapes.high(setOf(0), axis);
            putWay(0, 0);
            putWay(gaps, 0);
            for (int k = 1; k < gaps; k++) {
                place += k <= wider ? gap + 1 : gap;
                putWay(k, place - shapes.low(setOf(k), axis));
                place += sizeOf(shapes, k, axis);
            }
            return space;
        }

        /** An insertion sort, which leaves those that begin at the same place as they are ordered. */
        private void sortAlong(Shapes shapes, int axis) {
            for (int k = 1; k < count && k < sets.length; k++) {
                int set = sets[k];
                int low = shapes.low(set, axis);
                int free = k;
                while (free > 0 && shapes.low(sets[free - 1], axis) > low) {
                    sets[free] = sets[free - 1];
                    free--;
                }
                sets[free] = set;
            }
        }

        boolean canShift(Shapes shapes, int axis) {
            for (int k = 0; k < count; k++) {
                if (!shapes.canShift(setOf(k), axis, wayOf(k))) {
                    return false;
                }
            }
            return true;
        }

        /** Answers how many units came to another place. */
        int shift(Shapes shapes, int axis) {
            int shifted = 0;
            for (int k = 0; k < count; k++) {
                if (wayOf(k) != 0) {
                    shapes.shift(setOf(k), axis, wayOf(k));
                    shifted++;
                }
            }
            return shifted;
        }
    }

    /** The search for the aim that corrects a dragging along one axis. */
    private static final class Snap {
        private static final int NO_AIM = 4;
        int aim;
        int correction;
        private int tolerance;

        void search(Diagram diagram, int axis, int way) {
            Shapes shapes = diagram.shapes;
            int left = shapes.lineOf(shapes.chosen, axis, 0) + way;
            int center = shapes.lineOf(shapes.chosen, axis, 1) + way;
            int right = shapes.lineOf(shapes.chosen, axis, 2) + way;
            aim = NO_AIM;
            correction = 0;
            tolerance = diagram.guides.tolerance;
            for (int k = 0; k < diagram.guides.count; k++) {
                if (diagram.guides.isOn(k, axis)) {
                    int guide = diagram.guides.placeOf(k);
                    offer(0, guide - left);
                    offer(0, guide - center);
                    offer(0, guide - right);
                }
            }
            for (int k = 0; k < MOST_SHAPES; k++) {
                Shape shape = shapes.find(k);
                if (shape != null && !hasBit(shapes.chosen, k)) {
                    offer(1, shape.center(axis) - center);
                    offerSides(shape.start(axis), shape.end(axis), left);
                    offerSides(shape.start(axis), shape.end(axis), right);
                }
            }
            offerGrid(diagram.guides.grid, left);
        }

        private void offerSides(int start, int end, int line) {
            offer(2, start - line);
            offer(2, end - line);
        }

        /** Of all multiples, the nearest ones on both sides are enough. */
        private void offerGrid(int step, int line) {
            if (step > 0) {
                int beyond = Math.floorMod(line, step);
                offer(3, -beyond);
                offer(3, step - beyond);
            }
        }

        private void offer(int aimClass, int way) {
            if (Math.abs(way) > tolerance || aimClass > aim) {
                return;
            }
            if (aimClass < aim || isNearer(way)) {
                aim = aimClass;
                correction = way;
            }
        }

        private boolean isNearer(int way) {
            int distance = Math.abs(way);
            int best = Math.abs(correction);
            return distance < best || distance == best && way < correction;
        }
    }

    /** The buffer, and the shapes that were last read from it. */
    private static final class Text {
        private static final int MOST_DIGITS = 5;
        // The shortest shape has 8 characters, so that six and the beginning of a seventh have room.
        private static final int MOST_DRAFTS = 7;

        private final int[] codes = new int[MOST_CHARACTERS];
        private final Shape[] drafts = new Shape[MOST_DRAFTS];
        int count;
        int shapeCount;
        private int place;
        private int number;
        private int firstMisfit;

        Text() {
            for (int k = 0; k < drafts.length; k++) {
                drafts[k] = new Shape();
            }
        }

        boolean append(int code) {
            if (count < 0 || count >= codes.length) {
                return false;
            }
            codes[count] = code;
            count++;
            return true;
        }

        Shape draft(int k) {
            return k >= 0 && k < drafts.length ? drafts[k] : null;
        }

        /** The character at the place that is read; NONE at the end. */
        private int code() {
            return place >= 0 && place < count && place < codes.length ? codes[place] : NONE;
        }

        /** Answers the error place, or NONE if the text has no error. */
        int parse() {
            place = 0;
            shapeCount = 0;
            firstMisfit = NONE;
            for (int k = 0; k < drafts.length; k++) {
                Shape draft = drafts[k];
                if (draft == null || !parseShape(draft)) {
                    return place;
                }
                shapeCount++;
                if (place >= count) {
                    return firstMisfit;
                }
                if (code() != ';') {
                    return place;
                }
                place++;
            }
            return place;
        }

        private boolean parseShape(Shape draft) {
            draft.kind = kindOf(code());
            if (draft.kind == NONE) {
                return false;
            }
            place++;
            for (int k = 0; k < 4; k++) {
                if (k > 0) {
                    if (code() != ',') {
                        return false;
                    }
                    place++;
                }
                int first = place;
                if (!parseNumber()) {
                    return false;
                }
                takeNumber(draft, k, first);
            }
            return true;
        }

        private static int kindOf(int code) {
            switch (code) {
                case 'b': return 0;
                case 'e': return ELLIPSE;
                case 'd': return DIAMOND;
                default: return NONE;
            }
        }

        private boolean parseNumber() {
            boolean negative = code() == '-';
            if (negative) {
                place++;
            }
            int value = 0;
            int digits = 0;
            while (digits < MOST_DIGITS && isWithin(code(), '0', '9')) {
                value = 10 * value + code() - '0';
                digits++;
                place++;
            }
            number = negative ? -value : value;
            return digits > 0;
        }

        /** A number out of its range counts only if the whole text can be read, so it is kept in mind. */
        private void takeNumber(Shape draft, int k, int first) {
            boolean fits = k < 2 ? isCoordinate(number) : isSize(number);
            if (!fits && firstMisfit == NONE) {
                firstMisfit = first;
            }
            switch (k) {
                case 0: draft.left = number; break;
                case 1: draft.top = number; break;
                case 2: draft.width = number; break;
                default: draft.height = number; break;
            }
        }
    }
}
