import java.lang.reflect.InvocationTargetException;
import java.lang.reflect.Method;
import java.util.HashMap;
import java.util.Map;

/** Calls by their names, so that a table can hold them and the class and the model can be asked alike. */
final class Calls {
    private static final Map<String, Method> FOUND = new HashMap<>();

    private Calls() {
    }

    static long on(Object asked, String name, long... args) {
        Method method = FOUND.computeIfAbsent(asked.getClass().getName() + "." + name, key -> find(asked.getClass(), name));
        Object[] given = new Object[args.length];
        for (int i = 0; i < args.length; i++) {
            boolean isLong = method.getParameterTypes()[i] == long.class;
            given[i] = isLong ? (Object) args[i] : (Object) Math.toIntExact(args[i]);
        }
        try {
            return ((Number) method.invoke(asked, given)).longValue();
        } catch (InvocationTargetException thrown) {
            throw new IllegalStateException(told(name, args) + " threw " + thrown.getCause(), thrown.getCause());
        } catch (IllegalAccessException closed) {
            throw new IllegalStateException(closed);
        }
    }

    private static Method find(Class<?> type, String name) {
        for (Method method : type.getDeclaredMethods()) {
            if (method.getName().equals(name)) {
                method.setAccessible(true);
                return method;
            }
        }
        throw new IllegalArgumentException(type + " has no " + name);
    }

    static String told(String name, long... args) {
        StringBuilder text = new StringBuilder(name).append('(');
        for (int i = 0; i < args.length; i++) {
            text.append(i > 0 ? ", " : "").append(args[i]);
        }
        return text.append(')').toString();
    }
}
