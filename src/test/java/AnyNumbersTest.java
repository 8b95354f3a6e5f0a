import java.lang.reflect.InvocationTargetException;
import java.lang.reflect.Method;
import java.lang.reflect.Modifier;
import java.util.function.Supplier;

/** No call throws, whatever numbers it is given: every way to give each call very odd ones. */
public final class AnyNumbersTest {
    private static final int[] NUMBERS = {Integer.MIN_VALUE, -1, 0, 3, 40, Integer.MAX_VALUE};
    private static final Due DUE = new Due();

    private static Object[] given(Method m, int way) {
        Object[] args = new Object[m.getParameterCount()];
        int rest = way;
        for (int i = 0; i < args.length; i++) {
            int v = NUMBERS[rest % NUMBERS.length];
            args[i] = m.getParameterTypes()[i] == long.class ? (Object) (long) v : (Object) v;
            rest /= NUMBERS.length;
        }
        return args;
    }

    private static int ways(Method m) {
        int ways = 1;
        for (int i = 0; i < m.getParameterCount(); i++) {
            ways *= NUMBERS.length;
        }
        return ways;
    }

    private static void tryAll(Method m, Supplier<HeldTongues> scene) throws IllegalAccessException {
        for (int way = 0; way < ways(m); way++) {
            String thrown = "";
            try {
                m.invoke(scene.get(), given(m, way));
            } catch (InvocationTargetException e) {
                thrown = e.getCause().toString();
            }
            DUE.holds(m.getName() + ", way " + way + " " + thrown, thrown.isEmpty());
        }
    }

    public static void main(String[] args) throws IllegalAccessException {
        for (Method m : HeldTongues.class.getDeclaredMethods()) {
            if (Modifier.isPublic(m.getModifiers())) {
                tryAll(m, HeldTongues::new);
                tryAll(m, Twins::usual);
                tryAll(m, Twins::full);
            }
        }
        DUE.end();
    }
}
