import java.lang.reflect.Method;
import java.lang.reflect.Modifier;

/** Any ints in any state: no call may throw, and one that answers an error changes nothing. */
public final class WrongArgumentsTest {
    private static final int[] VALUES = {Integer.MIN_VALUE, Integer.MIN_VALUE + 1, -1000000, -20000, -1, 0, 1, 2, 3, 7,
        8, 9, 19, 20, 31, 32, 33, 59, 60, 63, 64, 500, 10000, 20000, Integer.MAX_VALUE - 1, Integer.MAX_VALUE};

    private int pick = 1;

    public static void main(String[] args) throws Exception {
        WrongArgumentsTest test = new WrongArgumentsTest();
        for (Method method : DiagramDesk.class.getDeclaredMethods()) {
            if (Modifier.isPublic(method.getModifiers())) {
                for (int round = 0; round < 300; round++) {
                    test.call(stateOf(round % 6), method);
                }
            }
        }
        Due.finish();
    }

    private static DiagramDesk stateOf(int which) {
        DiagramDesk desk = Due.deskWith(which == 0 ? 0 : which == 1 ? 3 : 20);
        for (int k = 0; k < 25 && which > 1; k++) {
            desk.connect(k % 20, k % 4, (k + 7) % 20, k / 4 % 4, k % 3);
        }
        for (int k = 0; k < 9 && which > 2; k++) {
            desk.select(2 * k, true);
            desk.select(2 * k + 1, which != 5);
            desk.group();
        }
        for (int k = 0; k < 12 && which > 3; k++) {
            desk.addGuide(k % 2, 10 * k);
            desk.setGrid(5 * k);
        }
        for (int k = 0; k < 70 && which == 4; k++) {
            desk.type("b0,0,1,1;".charAt(k % 9));
        }
        for (int k = 0; k < 20 && which == 5; k++) {
            desk.removeShape(k);
        }
        return desk;
    }

    /** Each argument goes through the values at its own pace. */
    private void call(DiagramDesk desk, Method method) throws Exception {
        Class<?>[] types = method.getParameterTypes();
        Object[] arguments = new Object[types.length];
        StringBuilder text = new StringBuilder(method.getName());
        for (int k = 0; k < types.length; k++) {
            pick = (pick * 1103515245 + 12345) & Integer.MAX_VALUE;
            int value = VALUES[(pick >> 8) % VALUES.length];
            arguments[k] = types[k] == boolean.class ? (Object) (value < 5) : (Object) value;
            text.append(k == 0 ? "(" : ", ").append(arguments[k]);
        }
        long before = desk.fingerprint();
        long answer = ((Number) method.invoke(desk, arguments)).longValue();
        boolean isError = answer == DiagramDesk.NONE
                || answer >= DiagramDesk.OUTSIDE && answer < 0 && !method.getName().equals("distribute");
        if (isError) {
            Due.due(text + "): an error, but the fingerprint", desk.fingerprint(), before);
        }
    }
}
