import java.lang.reflect.Constructor;
import java.lang.reflect.InvocationTargetException;
import java.lang.reflect.Method;
import java.lang.reflect.Modifier;
import java.util.HashMap;
import java.util.List;
import java.util.Map;

/** One object of the class or of a Model, whose methods are called by their names. */
final class Caller {
    // The document promises nothing of an object behind this many calls.
    static final int MOST_CALLS = 512;
    private static final Map<Class<?>, Map<String, Method>> METHODS = new HashMap<>();

    private final boolean isLimited;
    private final Object table;
    private final Map<String, Method> methods;
    private int made;

    Caller(Class<?> tested) {
        isLimited = tested == PrunedSlices.class;
        methods = METHODS.computeIfAbsent(tested, Caller::methodsOf);
        try {
            Constructor<?> constructor = tested.getDeclaredConstructor();
            table = constructor.newInstance();
        } catch (ReflectiveOperationException fault) {
            throw new IllegalStateException(fault);
        }
    }

    /** An object that these calls have been made on. */
    static Caller after(Class<?> tested, List<String[]> calls) {
        Caller caller = new Caller(tested);
        for (String[] call : calls) {
            caller.call(call);
        }
        return caller;
    }

    private static Map<String, Method> methodsOf(Class<?> tested) {
        Map<String, Method> methods = new HashMap<>();
        for (Method method : tested.getDeclaredMethods()) {
            if (!Modifier.isPrivate(method.getModifiers())) {
                methods.put(method.getName(), method);
            }
        }
        return methods;
    }

    boolean isSpent() {
        return isLimited && made >= MOST_CALLS;
    }

    /** The answer as a text; what was thrown by its name. */
    String call(String... words) {
        if (isSpent()) {
            throw new IllegalStateException("more than " + MOST_CALLS + " calls on one object");
        }
        made++;
        Method method = methods.get(words[0]);
        if (method == null || method.getParameterCount() != words.length - 1) {
            throw new IllegalArgumentException("no such call: " + String.join(" ", words));
        }
        Object[] values = new Object[words.length - 1];
        for (int i = 0; i < values.length; i++) {
            values[i] = valueOf(method.getParameterTypes()[i], words[i + 1]);
        }
        try {
            return method.invoke(table, values).toString();
        } catch (InvocationTargetException thrown) {
            return thrown.getCause().getClass().getName();
        } catch (IllegalAccessException fault) {
            throw new IllegalStateException(fault);
        }
    }

    private static Object valueOf(Class<?> type, String word) {
        if (type == boolean.class) {
            return Boolean.valueOf(word);
        }
        int number = Integer.parseInt(word);
        return type == char.class ? (Object) (char) number : (Object) number;
    }
}
