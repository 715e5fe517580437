import java.lang.reflect.InvocationTargetException;
import java.lang.reflect.Method;
import java.lang.reflect.Modifier;
import java.util.ArrayList;
import java.util.Arrays;
import java.util.List;

/**
 * Every call with every mixture of numbers far off and at the edges, in several states: none may throw or fail to end,
 * and each is answered as by the plain model of the document.
 */
public final class FarTest {
    private static final int MIN = Integer.MIN_VALUE;
    private static final int MAX = Integer.MAX_VALUE;
    private static final int[] FAR = {MIN, MIN + 1, -10_001, -10_000, -65, -64, -2, -1, 0, 1, 2, 3, 6, 8, 33, 40, 64, 65,
        400, 9_999, 10_000, 1_000_003, MAX - 1, MAX};
    // Half of what an object may be called, so that what was done ahead of it fits in.
    private static final int CALLS = 250;
    // Each state by the calls that lead to it: a name's number in NAMES, then what it is told.
    private static final String[] NAMES = {"sets", "reads", "advise", "bad", "write", "keep"};
    private static final int[][][] STATES = {
        {},
        {{0, 7, 1}, {1, 0, 0, 3}},
        {{0, 7, 9_999}, {3, 0, 1}, {3, 9_998, 1}, {1, 9_990, 1, 8}, {2, 1, -1}, {5, 0}},
        {{0, 0, 4}, {0, 6, 1}, {0, 9, 8}, {0, 5, 100}, {1, 0, 1, 40}, {1, 64, -1, 40}, {4, 64, 0}, {2, 64, 64}, {5, 1}},
        {{0, 0, 64}, {0, 3, 32}, {0, 2, 8}, {0, 8, 2}, {0, 1, 1}, {1, 0, 1, 40}, {1, 40, 1, 40}, {1, 80, 1, 40},
            {1, 120, 1, 40}, {1, 160, 1, 40}, {1, 200, 1, 40}, {1, 240, 1, 40}, {1, 280, 1, 40}, {1, 320, 1, 40},
            {1, 360, 1, 40}, {1, 400, 1, 40}, {2, 9_999, -64}, {2, 0, 64}, {5, 0}, {5, 1}},
    };

    private AheadPlanner planner;
    private Model model;
    private int calls;
    private static int asked;

    public static void main(String[] args) throws ReflectiveOperationException {
        List<Method> face = new ArrayList<>();
        for (Method m : AheadPlanner.class.getDeclaredMethods()) {
            if (Modifier.isPublic(m.getModifiers())) {
                face.add(m);
            }
        }
        face.sort((a, b) -> a.getName().compareTo(b.getName()));
        for (int[][] state : STATES) {
            for (Method m : face) {
                new FarTest().ask(m, state);
            }
        }
        System.out.println(asked + " calls are as the model has them");
    }

    private void begin(int[][] state) throws ReflectiveOperationException {
        planner = new AheadPlanner();
        model = new Model();
        calls = 0;
        for (int[] call : state) {
            int[] told = Arrays.copyOfRange(call, 1, call.length);
            for (Method m : AheadPlanner.class.getDeclaredMethods()) {
                if (m.getName().equals(NAMES[call[0]])) {
                    compare(m, told);
                }
            }
        }
    }

    /** One method with all mixtures of numbers. */
    private void ask(Method m, int[][] state) throws ReflectiveOperationException {
        int count = m.getParameterCount();
        int all = 1;
        for (int i = 0; i < count; i++) {
            all *= FAR.length;
        }
        begin(state);
        for (int turn = 0; turn < all; turn++) {
            int[] told = new int[count];
            for (int i = 0, rest = turn; i < count; i++, rest /= FAR.length) {
                told[i] = FAR[rest % FAR.length];
            }
            if (calls >= CALLS) {
                begin(state);
            }
            compare(m, told);
        }
    }

    private void compare(Method m, int[] told) throws ReflectiveOperationException {
        Object[] arguments = new Object[told.length];
        for (int i = 0; i < told.length; i++) {
            arguments[i] = m.getParameterTypes()[i] == boolean.class ? (Object) (told[i] > 0) : (Object) told[i];
        }
        String call = m.getName() + Arrays.toString(arguments);
        Object want = Model.class.getDeclaredMethod(m.getName(), m.getParameterTypes()).invoke(model, arguments);
        try {
            Object got = m.invoke(planner, arguments);
            if (!got.equals(want)) {
                System.out.println(call + " answered " + got + ", due is " + want);
                System.exit(1);
            }
        } catch (InvocationTargetException e) {
            System.out.println(call + " threw " + e.getCause());
            System.exit(1);
        }
        calls++;
        asked++;
    }
}
