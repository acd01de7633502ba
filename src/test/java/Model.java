import java.util.ArrayList;
import java.util.Arrays;
import java.util.Comparator;
import java.util.HashSet;
import java.util.LinkedList;
import java.util.List;
import java.util.Map;
import java.util.Set;
import java.util.TreeMap;
import java.util.TreeSet;
import java.util.regex.Matcher;
import java.util.regex.Pattern;

/**
 * The document once more, written with the Java library and by other ways than the class, so that random
 * runs can be compared: whole states are copied, depth is a list, aims are listed and sorted, texts are
 * matched by a pattern, and lines are cut by fractions.
 */
final class Model {
    static final int BAD = -1;
    static final int STATE = -2;
    static final int FULL = -3;
    static final int OUTSIDE = -4;
    static final int NONE = -1000000;
    private static final String NUMBER = "(-?[0-9]{1,5})";
    private static final String SHAPE = "([bed])" + NUMBER + "," + NUMBER + "," + NUMBER + "," + NUMBER;
    private static final Pattern TEXT = Pattern.compile(SHAPE + "(;" + SHAPE + ")*");

    private static final class World {
        int added = 0;
        TreeMap<Integer, int[]> shapes = new TreeMap<>();
        LinkedList<Integer> depth = new LinkedList<>();
        List<int[]> connectors = new ArrayList<>();
        TreeMap<Integer, Set<String>> groups = new TreeMap<>();
        TreeSet<Integer> selected = new TreeSet<>();
        List<int[]> guides = new ArrayList<>();
        int grid = 0;
        int tolerance = 5;

        World copy() {
            World w = new World();
            w.added = added;
            for (Map.Entry<Integer, int[]> e : shapes.entrySet()) {
                w.shapes.put(e.getKey(), e.getValue().clone());
            }
            w.depth.addAll(depth);
            w.connectors.addAll(connectors);
            for (Map.Entry<Integer, Set<String>> e : groups.entrySet()) {
                w.groups.put(e.getKey(), new HashSet<>(e.getValue()));
            }
            w.selected.addAll(selected);
            w.guides.addAll(guides);
            w.grid = grid;
            w.tolerance = tolerance;
            return w;
        }
    }

    private World w = new World();
    private final LinkedList<World> past = new LinkedList<>();
    private final StringBuilder buffer = new StringBuilder();

    private void act() {
        past.addLast(w.copy());
        if (past.size() > 6) {
            past.removeFirst();
        }
    }

    private static boolean in(int v, int low, int high) {
        return v >= low && v <= high;
    }

    private boolean has(int shape) {
        return w.shapes.containsKey(shape);
    }

    private static int mask(Set<Integer> set) {
        int mask = 0;
        for (int k : set) {
            mask |= 1 << k;
        }
        return mask;
    }

    // ---- shapes

    private int put(int[] numbers) {
        int number = w.added++;
        w.shapes.put(number, numbers);
        w.depth.addFirst(number);
        return number;
    }

    int addShape(int kind, int x, int y, int width, int height) {
        if (!in(kind, 0, 2) || !in(x, -10000, 10000) || !in(y, -10000, 10000)
                || !in(width, 1, 500) || !in(height, 1, 500)) {
            return BAD;
        }
        if (w.added == 20) {
            return FULL;
        }
        act();
        return put(new int[] {kind, x, y, width, height});
    }

    int removeShape(int shape) {
        if (!has(shape)) {
            return BAD;
        }
        act();
        w.shapes.remove(shape);
        w.depth.remove((Integer) shape);
        w.selected.remove(shape);
        int before = w.connectors.size();
        w.connectors.removeIf(c -> c[0] == shape || c[2] == shape);
        for (Set<String> members : w.groups.values()) {
            members.remove("s" + shape);
        }
        for (int round = 0; round < 8; round++) {
            for (int g = 0; g < 8; g++) {
                if (w.groups.containsKey(g) && w.groups.get(g).isEmpty()) {
                    w.groups.remove(g);
                    for (Set<String> members : w.groups.values()) {
                        members.remove("g" + g);
                    }
                }
            }
        }
        return before - w.connectors.size();
    }

    int resize(int shape, int width, int height) {
        if (!has(shape) || !in(width, 1, 500) || !in(height, 1, 500)) {
            return BAD;
        }
        act();
        w.shapes.get(shape)[3] = width;
        w.shapes.get(shape)[4] = height;
        return (int) w.connectors.stream().filter(c -> c[0] == shape || c[2] == shape).count();
    }

    private int homeOf(String member) {
        for (Map.Entry<Integer, Set<String>> e : w.groups.entrySet()) {
            if (e.getValue().contains(member)) {
                return e.getKey();
            }
        }
        return NONE;
    }

    private int outermost(int shape) {
        int group = homeOf("s" + shape);
        while (group != NONE && homeOf("g" + group) != NONE) {
            group = homeOf("g" + group);
        }
        return group;
    }

    private TreeSet<Integer> shapesIn(int group) {
        TreeSet<Integer> set = new TreeSet<>();
        for (String member : w.groups.get(group)) {
            int number = Integer.parseInt(member.substring(1));
            if (member.charAt(0) == 's') {
                set.add(number);
            } else {
                set.addAll(shapesIn(number));
            }
        }
        return set;
    }

    int shape(int shape, int what) {
        if (!has(shape) || !in(what, 0, 8)) {
            return NONE;
        }
        if (what < 5) {
            return w.shapes.get(shape)[what];
        }
        if (what == 5) {
            return w.selected.contains(shape) ? 1 : 0;
        }
        if (what == 6) {
            return w.depth.indexOf(shape);
        }
        return what == 7 ? homeOf("s" + shape) : outermost(shape);
    }

    private int[] portOf(int shape, int port) {
        int[] s = w.shapes.get(shape);
        int cx = s[1] + s[3] / 2;
        int cy = s[2] + s[4] / 2;
        switch (port) {
            case 0: return new int[] {cx, s[2]};
            case 1: return new int[] {s[1] + s[3], cy};
            case 2: return new int[] {cx, s[2] + s[4]};
            default: return new int[] {s[1], cy};
        }
    }

    int port(int shape, int port, int axis) {
        return has(shape) && in(port, 0, 3) && in(axis, 0, 1) ? portOf(shape, port)[axis] : NONE;
    }

    int bring(int shape, boolean front) {
        if (!has(shape)) {
            return BAD;
        }
        act();
        int previous = w.depth.indexOf(shape);
        w.depth.remove((Integer) shape);
        if (front) {
            w.depth.addFirst(shape);
        } else {
            w.depth.addLast(shape);
        }
        return previous;
    }

    private static boolean contains(int[] s, int px, int py) {
        if (s[0] == 0) {
            return px >= s[1] && px <= s[1] + s[3] && py >= s[2] && py <= s[2] + s[4];
        }
        long a = Math.abs(2L * px - 2L * s[1] - s[3]);
        long b = Math.abs(2L * py - 2L * s[2] - s[4]);
        long width = s[3];
        long height = s[4];
        if (s[0] == 1) {
            return a * a * height * height + b * b * width * width <= width * width * height * height;
        }
        return a * height + b * width <= width * height;
    }

    int at(int x, int y) {
        if (!in(x, -100000, 100000) || !in(y, -100000, 100000)) {
            return BAD;
        }
        for (int shape : w.depth) {
            if (contains(w.shapes.get(shape), x, y)) {
                return shape;
            }
        }
        return NONE;
    }

    // ---- connectors

    int connect(int from, int fromPort, int to, int toPort, int style) {
        if (!has(from) || !has(to) || from == to || !in(fromPort, 0, 3) || !in(toPort, 0, 3) || !in(style, 0, 2)) {
            return BAD;
        }
        if (w.connectors.size() == 20) {
            return FULL;
        }
        act();
        w.connectors.add(new int[] {from, fromPort, to, toPort, style});
        return w.connectors.size() - 1;
    }

    private boolean hasConnector(int connector) {
        return in(connector, 0, w.connectors.size() - 1);
    }

    int disconnect(int connector) {
        if (!hasConnector(connector)) {
            return BAD;
        }
        act();
        w.connectors.remove(connector);
        return w.connectors.size();
    }

    int connectors() {
        return w.connectors.size();
    }

    private int[][] points(int connector) {
        int[] c = w.connectors.get(connector);
        int[] a = portOf(c[0], c[1]);
        int[] b = portOf(c[2], c[3]);
        boolean level = c[1] == 1 || c[1] == 3;
        if (c[4] == 0) {
            return new int[][] {a, b};
        }
        if (c[4] == 1) {
            return new int[][] {a, level ? new int[] {b[0], a[1]} : new int[] {a[0], b[1]}, b};
        }
        if (level) {
            int m = (int) Math.floor((a[0] + b[0]) / 2.0);
            return new int[][] {a, {m, a[1]}, {m, b[1]}, b};
        }
        int m = (int) Math.floor((a[1] + b[1]) / 2.0);
        return new int[][] {a, {a[0], m}, {b[0], m}, b};
    }

    int point(int connector, int k, int axis) {
        if (!hasConnector(connector) || !in(axis, 0, 1)) {
            return NONE;
        }
        int[][] points = points(connector);
        return in(k, 0, points.length - 1) ? points[k][axis] : NONE;
    }

    int length(int connector) {
        if (!hasConnector(connector)) {
            return BAD;
        }
        int[][] p = points(connector);
        int sum = 0;
        for (int k = 1; k < p.length; k++) {
            sum += Math.abs(p[k][0] - p[k - 1][0]) + Math.abs(p[k][1] - p[k - 1][1]);
        }
        return sum;
    }

    /** Compares the fractions a and b (numerator, positive denominator). */
    private static int compare(long[] a, long[] b) {
        return Long.compare(a[0] * b[1], b[0] * a[1]);
    }

    /** The share of the line, as fractions of its length, that lies inside must not be empty. */
    private static boolean cuts(int[] p, int[] q, int[] s) {
        long[] low = {-1, 1};
        long[] high = {2, 1};
        for (int axis = 0; axis < 2; axis++) {
            long from = s[1 + axis];
            long to = from + s[3 + axis];
            long d = q[axis] - p[axis];
            if (d == 0) {
                if (p[axis] <= from || p[axis] >= to) {
                    return false;
                }
                continue;
            }
            long[] enter = d > 0 ? new long[] {from - p[axis], d} : new long[] {p[axis] - to, -d};
            long[] leave = d > 0 ? new long[] {to - p[axis], d} : new long[] {p[axis] - from, -d};
            low = compare(enter, low) > 0 ? enter : low;
            high = compare(leave, high) < 0 ? leave : high;
        }
        return compare(low, high) < 0 && compare(low, new long[] {1, 1}) < 0 && compare(high, new long[] {0, 1}) > 0;
    }

    int through(int connector) {
        if (!hasConnector(connector)) {
            return BAD;
        }
        int[] c = w.connectors.get(connector);
        int[][] p = points(connector);
        Set<Integer> set = new HashSet<>();
        for (int shape : w.shapes.keySet()) {
            for (int k = 1; k < p.length; k++) {
                if (shape != c[0] && shape != c[2] && cuts(p[k - 1], p[k], w.shapes.get(shape))) {
                    set.add(shape);
                }
            }
        }
        return mask(set);
    }

    // ---- selection, groups

    int select(int shape, boolean on) {
        if (!has(shape)) {
            return BAD;
        }
        act();
        int group = outermost(shape);
        Set<Integer> together = group == NONE ? Set.of(shape) : shapesIn(group);
        if (on) {
            w.selected.addAll(together);
        } else {
            w.selected.removeAll(together);
        }
        return w.selected.size();
    }

    int selected() {
        return mask(w.selected);
    }

    private List<TreeSet<Integer>> units() {
        List<TreeSet<Integer>> units = new ArrayList<>();
        for (int shape : w.selected) {
            int group = outermost(shape);
            TreeSet<Integer> unit = group == NONE ? new TreeSet<>(Set.of(shape)) : shapesIn(group);
            if (!units.contains(unit)) {
                units.add(unit);
            }
        }
        units.sort(Comparator.comparing(TreeSet::first));
        return units;
    }

    int group() {
        List<TreeSet<Integer>> units = units();
        if (units.size() < 2) {
            return STATE;
        }
        if (w.groups.size() == 8) {
            return FULL;
        }
        act();
        Set<String> members = new HashSet<>();
        for (TreeSet<Integer> unit : units) {
            int group = outermost(unit.first());
            members.add(group == NONE ? "s" + unit.first() : "g" + group);
        }
        int number = 0;
        while (w.groups.containsKey(number)) {
            number++;
        }
        w.groups.put(number, members);
        return number;
    }

    int ungroup(int group) {
        if (!w.groups.containsKey(group)) {
            return BAD;
        }
        act();
        int home = homeOf("g" + group);
        Set<String> members = w.groups.remove(group);
        if (home != NONE) {
            w.groups.get(home).remove("g" + group);
            w.groups.get(home).addAll(members);
        }
        return members.size();
    }

    int shapesOf(int group) {
        return w.groups.containsKey(group) ? mask(shapesIn(group)) : BAD;
    }

    // ---- moving

    /** The left, center and right (the top, center and bottom) of the box of a set. */
    private int[] lines(Set<Integer> set, int axis) {
        int low = set.stream().mapToInt(k -> w.shapes.get(k)[1 + axis]).min().getAsInt();
        int high = set.stream().mapToInt(k -> w.shapes.get(k)[1 + axis] + w.shapes.get(k)[3 + axis]).max().getAsInt();
        return new int[] {low, low + (high - low) / 2, high};
    }

    private boolean fits(Set<Integer> set, int axis, int by) {
        return set.stream().allMatch(k -> in(w.shapes.get(k)[1 + axis] + by, -10000, 10000));
    }

    private void shift(Set<Integer> set, int axis, int by) {
        for (int k : set) {
            w.shapes.get(k)[1 + axis] += by;
        }
    }

    int move(int dx, int dy) {
        if (!in(dx, -20000, 20000) || !in(dy, -20000, 20000)) {
            return BAD;
        }
        if (w.selected.isEmpty()) {
            return STATE;
        }
        if (!fits(w.selected, 0, dx) || !fits(w.selected, 1, dy)) {
            return OUTSIDE;
        }
        act();
        shift(w.selected, 0, dx);
        shift(w.selected, 1, dy);
        return (int) w.connectors.stream()
                .filter(c -> w.selected.contains(c[0]) ^ w.selected.contains(c[2])).count();
    }

    /** The class of the aim that is taken, and the correction. */
    private int[] aim(int axis, int by) {
        int[] lines = lines(w.selected, axis);
        for (int k = 0; k < 3; k++) {
            lines[k] += by;
        }
        List<int[]> aims = new ArrayList<>();
        for (int[] guide : w.guides) {
            for (int k = 0; k < 3 && guide[0] == axis; k++) {
                aims.add(new int[] {0, guide[1] - lines[k]});
            }
        }
        for (int shape : w.shapes.keySet()) {
            if (!w.selected.contains(shape)) {
                int[] other = lines(Set.of(shape), axis);
                aims.add(new int[] {1, other[1] - lines[1]});
                aims.add(new int[] {2, other[0] - lines[0]});
                aims.add(new int[] {2, other[2] - lines[0]});
                aims.add(new int[] {2, other[0] - lines[2]});
                aims.add(new int[] {2, other[2] - lines[2]});
            }
        }
        for (int way = -50; way <= 50; way++) {
            if (w.grid > 0 && (lines[0] + way) % w.grid == 0) {
                aims.add(new int[] {3, way});
            }
        }
        aims.removeIf(a -> Math.abs(a[1]) > w.tolerance);
        aims.sort(Comparator.<int[]>comparingInt(a -> a[0]).thenComparingInt(a -> Math.abs(a[1]))
                .thenComparingInt(a -> a[1]));
        return aims.isEmpty() ? new int[] {4, 0} : aims.get(0);
    }

    int drag(int dx, int dy) {
        if (!in(dx, -20000, 20000) || !in(dy, -20000, 20000)) {
            return BAD;
        }
        if (w.selected.isEmpty()) {
            return STATE;
        }
        int[] aimX = aim(0, dx);
        int[] aimY = aim(1, dy);
        if (!fits(w.selected, 0, dx + aimX[1]) || !fits(w.selected, 1, dy + aimY[1])) {
            return OUTSIDE;
        }
        act();
        shift(w.selected, 0, dx + aimX[1]);
        shift(w.selected, 1, dy + aimY[1]);
        return aimX[0] + 10 * aimY[0];
    }

    int correction(int dx, int dy, int axis) {
        if (!in(dx, -20000, 20000) || !in(dy, -20000, 20000) || !in(axis, 0, 1) || w.selected.isEmpty()) {
            return NONE;
        }
        return aim(axis, axis == 0 ? dx : dy)[1];
    }

    int align(int line) {
        if (!in(line, 0, 5)) {
            return BAD;
        }
        List<TreeSet<Integer>> units = units();
        if (units.size() < 2) {
            return STATE;
        }
        int axis = line / 3;
        int goal = lines(w.selected, axis)[line % 3];
        int[] ways = units.stream().mapToInt(u -> goal - lines(u, axis)[line % 3]).toArray();
        return shiftUnits(units, axis, ways) ? (int) Arrays.stream(ways).filter(way -> way != 0).count() : OUTSIDE;
    }

    private boolean shiftUnits(List<TreeSet<Integer>> units, int axis, int[] ways) {
        for (int k = 0; k < ways.length; k++) {
            if (!fits(units.get(k), axis, ways[k])) {
                return false;
            }
        }
        act();
        for (int k = 0; k < ways.length; k++) {
            shift(units.get(k), axis, ways[k]);
        }
        return true;
    }

    int distribute(int axis) {
        List<TreeSet<Integer>> units = units();
        int n = units.size();
        if (!in(axis, 0, 1) || n < 3) {
            return NONE;
        }
        units.sort(Comparator.comparingInt(u -> lines(u, axis)[0]));
        int space = lines(units.get(n - 1), axis)[0] - lines(units.get(0), axis)[2];
        for (int k = 1; k < n - 1; k++) {
            space -= lines(units.get(k), axis)[2] - lines(units.get(k), axis)[0];
        }
        int gap = (int) Math.floor((double) space / (n - 1));
        int rest = space - gap * (n - 1);
        int[] ways = new int[n];
        int end = lines(units.get(0), axis)[2];
        for (int k = 1; k < n; k++) {
            int start = end + gap + (k - 1 < rest ? 1 : 0);
            int[] lines = lines(units.get(k), axis);
            ways[k] = start - lines[0];
            end = start + lines[2] - lines[0];
        }
        return shiftUnits(units, axis, ways) ? space : NONE;
    }

    // ---- guides

    int addGuide(int axis, int at) {
        if (!in(axis, 0, 1) || !in(at, -10000, 10000)) {
            return BAD;
        }
        if (w.guides.size() == 10) {
            return FULL;
        }
        act();
        w.guides.add(new int[] {axis, at});
        return w.guides.size();
    }

    int clearGuides() {
        act();
        int count = w.guides.size();
        w.guides.clear();
        return count;
    }

    int setGrid(int step) {
        if (!in(step, 0, 100)) {
            return BAD;
        }
        act();
        int previous = w.grid;
        w.grid = step;
        return previous;
    }

    int setTolerance(int tolerance) {
        if (!in(tolerance, 0, 50)) {
            return BAD;
        }
        act();
        int previous = w.tolerance;
        w.tolerance = tolerance;
        return previous;
    }

    // ---- texts

    int type(int c) {
        if (!in(c, 32, 126)) {
            return BAD;
        }
        if (buffer.length() == 60) {
            return FULL;
        }
        buffer.append((char) c);
        return buffer.length();
    }

    int clear() {
        int count = buffer.length();
        buffer.setLength(0);
        return count;
    }

    /** A character stands at its place if the text up to it can be gone on with. */
    private static int errorPlace(String text) {
        if (!TEXT.matcher(text).matches()) {
            int place = 0;
            for (int k = 1; k <= text.length(); k++) {
                Matcher matcher = TEXT.matcher(text.substring(0, k));
                if (matcher.matches() || matcher.hitEnd()) {
                    place = k;
                }
            }
            return place;
        }
        Matcher number = Pattern.compile(NUMBER).matcher(text);
        for (int k = 0; number.find(); k++) {
            int value = Integer.parseInt(number.group());
            if (k % 4 < 2 ? !in(value, -10000, 10000) : !in(value, 1, 500)) {
                return number.start();
            }
        }
        return NONE;
    }

    int read() {
        String text = buffer.toString();
        int place = errorPlace(text);
        if (place != NONE) {
            return -100 - place;
        }
        String[] parts = text.split(";");
        if (w.added + parts.length > 20) {
            return FULL;
        }
        act();
        for (String part : parts) {
            String[] numbers = part.substring(1).split(",");
            int[] shape = {"bed".indexOf(part.charAt(0)), 0, 0, 0, 0};
            for (int k = 0; k < 4; k++) {
                shape[k + 1] = Integer.parseInt(numbers[k]);
            }
            put(shape);
        }
        buffer.setLength(0);
        return parts.length;
    }

    // ---- history

    int undo() {
        if (past.isEmpty()) {
            return NONE;
        }
        w = past.removeLast();
        return past.size();
    }

    long fingerprint() {
        List<Integer> numbers = new ArrayList<>();
        for (int k : w.shapes.keySet()) {
            numbers.add(k);
            for (int what = 0; what < 9; what++) {
                numbers.add(shape(k, what));
            }
        }
        numbers.add(connectors());
        for (int c = 0; c < connectors(); c++) {
            numbers.add(length(c));
            numbers.add(through(c));
            for (int[] point : points(c)) {
                numbers.add(point[0]);
                numbers.add(point[1]);
            }
        }
        for (int g : w.groups.keySet()) {
            numbers.add(g);
            numbers.add(shapesOf(g));
        }
        long sum = 89;
        for (int number : numbers) {
            sum = 31 * sum + number;
        }
        return sum;
    }
}
