import java.util.Random;

/** Long runs of calls with fixed seeds, each answer compared with the one of the model. */
public final class RandomRunsTest {
    private static final int RUNS = 400;
    private static final int CALLS = 512;
    private static final String[] TEXTS = {"b", "e", "d", ";", ",", "-", "0", "1", "7", "9", "10", "500", "501",
        "10000", "10001", "99999", "b0,0,1,1", "e-5,7,30,40", "d10,-20,500,1", ",20,30,40", "x", " ", "~"};

    private final Random random;
    private final int spread;
    private final DiagramDesk desk = new DiagramDesk();
    private final Model model = new Model();
    private String call = "";

    private RandomRunsTest(int seed) {
        random = new Random(seed);
        // Narrow places make aims, ties and crossings likely, wide ones the borders of the coordinates.
        spread = new int[] {12, 60, 400, 10000}[seed % 4];
    }

    public static void main(String[] args) {
        for (int seed = 0; seed < RUNS; seed++) {
            new RandomRunsTest(seed).run(seed);
        }
        Due.finish();
    }

    private void run(int seed) {
        for (int k = 0; k < CALLS; k++) {
            int op = random.nextInt(100);
            long[] answers = op < 30 ? build() : op < 58 ? arrange() : op < 68 ? guide() : op < 76 ? text() : look();
            Due.due("run " + seed + ", call " + k + ", " + call, answers[0], answers[1]);
            Due.due("run " + seed + ", fingerprint after call " + k, desk.fingerprint(), model.fingerprint());
            Due.due("run " + seed + ", selected after call " + k, desk.selected(), model.selected());
            if (answers[0] != answers[1] || desk.fingerprint() != model.fingerprint()) {
                return;
            }
        }
    }

    private static long[] both(long got, long want) {
        return new long[] {got, want};
    }

    /** Mostly a number from 0 on below the limit, sometimes one beside the range. */
    private int pick(int limit) {
        int special = random.nextInt(60);
        if (special == 0) {
            return -1;
        }
        if (special == 1) {
            return limit;
        }
        if (special == 2) {
            return random.nextBoolean() ? Integer.MIN_VALUE : Integer.MAX_VALUE;
        }
        return random.nextInt(limit);
    }

    private int place() {
        int special = random.nextInt(80);
        if (special < 4) {
            return new int[] {-10000, 10000, -10001, 10001}[special];
        }
        return random.nextInt(2 * spread + 1) - spread;
    }

    private int size() {
        int special = random.nextInt(60);
        if (special < 4) {
            return new int[] {0, 501, 1, 500}[special];
        }
        return 1 + random.nextInt(Math.min(500, spread));
    }

    private int way() {
        int special = random.nextInt(80);
        if (special < 4) {
            return new int[] {-20000, 20000, -20001, 20001}[special];
        }
        return random.nextInt(spread + 1) - spread / 2;
    }

    private long[] build() {
        int a = pick(20);
        int b = pick(20);
        switch (random.nextInt(8)) {
            case 0:
            case 1: {
                int kind = pick(3);
                int[] n = {place(), place(), size(), size()};
                call = "addShape(" + kind + ", " + n[0] + ", " + n[1] + ", " + n[2] + ", " + n[3] + ")";
                return both(desk.addShape(kind, n[0], n[1], n[2], n[3]), model.addShape(kind, n[0], n[1], n[2], n[3]));
            }
            case 2:
                if (random.nextInt(3) != 0) {
                    call = "connectors()";
                    return both(desk.connectors(), model.connectors());
                }
                call = "removeShape(" + a + ")";
                return both(desk.removeShape(a), model.removeShape(a));
            case 3: {
                int width = size();
                int height = size();
                call = "resize(" + a + ", " + width + ", " + height + ")";
                return both(desk.resize(a, width, height), model.resize(a, width, height));
            }
            case 4: {
                boolean front = random.nextBoolean();
                call = "bring(" + a + ", " + front + ")";
                return both(desk.bring(a, front), model.bring(a, front));
            }
            case 5:
                if (random.nextInt(3) == 0) {
                    call = "disconnect(" + a + ")";
                    return both(desk.disconnect(a), model.disconnect(a));
                }
                // falls through: connectors are made more often than removed
            default: {
                int port = pick(4);
                int toPort = pick(4);
                int style = pick(3);
                call = "connect(" + a + ", " + port + ", " + b + ", " + toPort + ", " + style + ")";
                return both(desk.connect(a, port, b, toPort, style), model.connect(a, port, b, toPort, style));
            }
        }
    }

    private long[] arrange() {
        int dx = way();
        int dy = way();
        switch (random.nextInt(12)) {
            case 0:
            case 1:
            case 2:
            case 3: {
                int shape = pick(20);
                boolean on = random.nextInt(3) != 0;
                call = "select(" + shape + ", " + on + ")";
                return both(desk.select(shape, on), model.select(shape, on));
            }
            case 4:
            case 5:
                call = "group()";
                return both(desk.group(), model.group());
            case 6: {
                int group = pick(8);
                call = "ungroup(" + group + ")";
                return both(desk.ungroup(group), model.ungroup(group));
            }
            case 7:
                call = "move(" + dx + ", " + dy + ")";
                return both(desk.move(dx, dy), model.move(dx, dy));
            case 8:
                call = "drag(" + dx + ", " + dy + ")";
                return both(desk.drag(dx, dy), model.drag(dx, dy));
            case 9: {
                int line = pick(6);
                call = "align(" + line + ")";
                return both(desk.align(line), model.align(line));
            }
            case 10: {
                int axis = pick(2);
                call = "distribute(" + axis + ")";
                return both(desk.distribute(axis), model.distribute(axis));
            }
            default:
                call = "undo()";
                return both(desk.undo(), model.undo());
        }
    }

    private long[] guide() {
        switch (random.nextInt(8)) {
            case 0:
                call = "clearGuides()";
                return both(desk.clearGuides(), model.clearGuides());
            case 1: {
                int step = pick(101);
                call = "setGrid(" + step + ")";
                return both(desk.setGrid(step), model.setGrid(step));
            }
            case 2: {
                int tolerance = pick(51);
                call = "setTolerance(" + tolerance + ")";
                return both(desk.setTolerance(tolerance), model.setTolerance(tolerance));
            }
            default: {
                int axis = pick(2);
                int at = place();
                call = "addGuide(" + axis + ", " + at + ")";
                return both(desk.addGuide(axis, at), model.addGuide(axis, at));
            }
        }
    }

    /** Whole pieces are typed at once, so that texts without an error come about. */
    private long[] text() {
        if (random.nextInt(5) == 0) {
            int c = random.nextBoolean() ? 31 : 127;
            call = "type(" + c + ")";
            return both(desk.type(c), model.type(c));
        }
        if (random.nextInt(3) == 0) {
            int had = desk.clear();
            call = "clear()";
            Due.due("clear", had, model.clear());
        }
        for (int pieces = 1 + random.nextInt(9); pieces > 0; pieces--) {
            String piece = TEXTS[random.nextInt(TEXTS.length)];
            if (random.nextInt(3) == 0) {
                piece = random.nextInt(2) + "b" + random.nextInt(99) + "," + place() + "," + size() + "," + size() + ";";
                piece = piece.substring(random.nextInt(2));
            }
            for (int k = 0; k < piece.length(); k++) {
                Due.due("type", desk.type(piece.charAt(k)), model.type(piece.charAt(k)));
            }
        }
        call = "read()";
        return both(desk.read(), model.read());
    }

    private long[] look() {
        int a = pick(20);
        int b = pick(9);
        int axis = pick(2);
        switch (random.nextInt(9)) {
            case 0:
                call = "shape(" + a + ", " + b + ")";
                return both(desk.shape(a, b), model.shape(a, b));
            case 1: {
                int port = pick(4);
                call = "port(" + a + ", " + port + ", " + axis + ")";
                return both(desk.port(a, port, axis), model.port(a, port, axis));
            }
            case 2:
            case 3: {
                int x = random.nextInt(50) == 0 ? 100001 : place();
                int y = random.nextInt(50) == 0 ? -100001 : place();
                call = "at(" + x + ", " + y + ")";
                return both(desk.at(x, y), model.at(x, y));
            }
            case 4: {
                int k = pick(4);
                call = "point(" + a + ", " + k + ", " + axis + ")";
                return both(desk.point(a, k, axis), model.point(a, k, axis));
            }
            case 5:
                call = "length(" + a + ")";
                return both(desk.length(a), model.length(a));
            case 6:
                call = "through(" + a + ")";
                return both(desk.through(a), model.through(a));
            case 7:
                call = "shapesOf(" + b + ")";
                return both(desk.shapesOf(b), model.shapesOf(b));
            default: {
                int dx = way();
                int dy = way();
                call = "correction(" + dx + ", " + dy + ", " + axis + ")";
                return both(desk.correction(dx, dy, axis), model.correction(dx, dy, axis));
            }
        }
    }
}
