import java.lang.reflect.InvocationTargetException;
import java.lang.reflect.Method;
import java.util.HashMap;
import java.util.Map;

/** Calls by their names, so that one run of calls serves KeyRing and PlainRing alike. */
final class Calls {
    private static final Map<Class<?>, Map<String, Method>> METHODS = new HashMap<>();

    private Calls() {
    }

    /** A call written as its name and its arguments, with spaces between them. */
    static String answer(Object x, String written) {
        String[] words = written.split(" ");
        int[] args = new int[words.length - 1];
        for (int i = 0; i < args.length; i++) {
            args[i] = Integer.parseInt(words[i + 1]);
        }
        return answer(x, words[0], args);
    }

    /** What the call answers, or the name of what it throws. */
    static String answer(Object x, String name, int... args) {
        Object[] boxed = new Object[args.length];
        for (int i = 0; i < args.length; i++) {
            boxed[i] = args[i];
        }
        try {
            return METHODS.computeIfAbsent(x.getClass(), Calls::methods).get(name).invoke(x, boxed).toString();
        } catch (InvocationTargetException e) {
            return e.getCause().getClass().getSimpleName();
        } catch (IllegalAccessException e) {
            throw new AssertionError(e);
        }
    }

    private static Map<String, Method> methods(Class<?> type) {
        Map<String, Method> named = new HashMap<>();
        for (Method m : type.getDeclaredMethods()) {
            named.put(m.getName(), m);
        }
        return named;
    }
}
