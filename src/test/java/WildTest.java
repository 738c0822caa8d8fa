import java.lang.reflect.InvocationTargetException;
import java.lang.reflect.Method;
import java.util.Arrays;
import java.util.Comparator;

/** No call throws, whatever its arguments and however many calls there were. */
public final class WildTest {
    private static final Checks CHECKS = new Checks();
    private static final int[] EDGES = {
        Integer.MIN_VALUE, Integer.MIN_VALUE + 1, -1000, -100, -16, -3, -2, -1, 0, 1, 2, 3, 4, 5, 6, 7, 8, 9, 10, 11, 12, 13,
        14, 15, 16, 17, 20, 60, 99, 100, 111, 112, 150, 200, 255, 256, 400, 999, 1234, 1 << 16, 1 << 30, Integer.MAX_VALUE - 1,
        Integer.MAX_VALUE,
    };
    private static long seed = 20261118;

    public static void main(String[] args) throws IllegalAccessException {
        Method[] methods = Arrays.stream(BasketEnvoys.class.getDeclaredMethods())
            .filter(m -> java.lang.reflect.Modifier.isPublic(m.getModifiers()))
            .sorted(Comparator.comparing(Method::getName)).toArray(Method[]::new);
        for (int round = 0; round < 6; round++) {
            BasketEnvoys x = new BasketEnvoys();
            for (int i = 0; i < 20000; i++) {
                call(x, methods[any(methods.length)], round);
                if (any(50) == 0) {
                    tellBytes(x);
                }
            }
        }
        CHECKS.finish();
    }

    private static int any(int n) {
        seed = seed * 6364136223846793005L + 1442695040888963407L;
        return (int) ((seed >>> 33) % n);
    }

    private static void call(BasketEnvoys x, Method method, int round) throws IllegalAccessException {
        Object[] args = new Object[method.getParameterCount()];
        for (int i = 0; i < args.length; i++) {
            if (method.getParameterTypes()[i] == boolean.class) {
                args[i] = any(2) == 0;
            } else if (round % 2 == 0) {
                args[i] = any(12) - 2;
            } else {
                args[i] = EDGES[any(EDGES.length)];
            }
        }
        try {
            method.invoke(x, args);
        } catch (InvocationTargetException e) {
            CHECKS.due(method.getName() + Arrays.toString(args) + " throws " + e.getCause(), true, false);
        }
    }

    /** Any bytes as a text, most of them signs of the grammars. */
    private static void tellBytes(BasketEnvoys x) {
        String[] parts = {
            "nods ", "cries ", "wins ", "when ", "or ", "and ", "not ", "(", ")", "1", "0", "9999", "/", "*", "+", "-", "<", "=",
            ";", "day", "power ", "thing ", "says ", "on ", "send ", "home ", "gift ", "mourn ", "wants ", " ", "\n", "\u00ff", "q",
        };
        StringBuilder text = new StringBuilder();
        for (int i = any(120); i > 0 && text.length() < 380; i--) {
            text.append(parts[any(parts.length)]);
        }
        x.end(0);
        CHECKS.due("a text", Checks.tell(x, any(4), text.toString()) >= -1, true);
    }
}
