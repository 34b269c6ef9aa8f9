import java.lang.reflect.InvocationTargetException;
import java.lang.reflect.Method;
import java.util.Arrays;
import java.util.Map;
import java.util.TreeMap;

/** An object and the slow oracle, on which the same calls are made, by name. */
final class Both {
    private static final Map<String, Method> CALLS = methodsOf(Stylite.class);
    private static final Map<String, Method> DUE = methodsOf(Oracle.class);

    private final Stylite x = new Stylite();
    private final Oracle o = new Oracle();

    private static Map<String, Method> methodsOf(Class<?> of) {
        Map<String, Method> all = new TreeMap<>();
        for (Method m : of.getDeclaredMethods()) {
            // the oracle's own helpers may bear a call's name, with other arguments
            if (Arrays.stream(m.getParameterTypes()).allMatch(Class::isPrimitive)) {
                m.setAccessible(true);
                all.put(m.getName(), m);
            }
        }
        return all;
    }

    /** The names of all calls of the face. */
    static Iterable<String> names() {
        return faced().keySet();
    }

    static Class<?>[] kindsOf(String name) {
        return CALLS.get(name).getParameterTypes();
    }

    private static Map<String, Method> faced() {
        Map<String, Method> all = new TreeMap<>();
        for (Method m : StyliteOverheard.class.getDeclaredMethods()) {
            if (java.lang.reflect.Modifier.isPublic(m.getModifiers())) {
                all.put(m.getName(), m);
            }
        }
        return all;
    }

    int callsLeft() {
        return x.callsLeft();
    }

    /** What is wrong with the answer; null: nothing. */
    String fault(String name, Object... numbers) {
        String call = name + Arrays.toString(numbers);
        long due = answer(DUE.get(name), o, numbers);
        try {
            long got = answer(CALLS.get(name), x, numbers);
            return got == due ? null : call + " answered " + got + ", due is " + due;
        } catch (IllegalStateException e) {
            return call + ": " + e.getMessage();
        }
    }

    private static long answer(Method m, Object of, Object[] numbers) {
        try {
            return ((Number) m.invoke(of, numbers)).longValue();
        } catch (InvocationTargetException e) {
            throw new IllegalStateException(m + " threw " + e.getCause());
        } catch (IllegalAccessException e) {
            throw new IllegalStateException(m + " can't be called");
        }
    }
}
