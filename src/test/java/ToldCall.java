import java.lang.reflect.InvocationTargetException;
import java.lang.reflect.Method;
import java.lang.reflect.Modifier;
import java.util.HashMap;
import java.util.Map;
import java.util.Set;

/** A call as a text tells it, for example "setAmount(0, 0, -99)"; least and most are an int's own limits. */
final class ToldCall {
    private static final Map<String, Method> METHODS = methods();

    private final String told;
    private final Method method;
    private final Object[] arguments;

    ToldCall(String told) {
        this.told = told;
        int open = told.indexOf('(');
        if (open < 0 || !told.endsWith(")")) {
            throw new AssertionError("this is no call: " + told);
        }
        method = METHODS.get(told.substring(0, open));
        if (method == null) {
            throw new AssertionError("there is no such method: " + told);
        }
        String inside = told.substring(open + 1, told.length() - 1).trim();
        String[] parts = inside.isEmpty() ? new String[0] : inside.split(", *");
        Class<?>[] types = method.getParameterTypes();
        if (parts.length != types.length) {
            throw new AssertionError("the method has " + types.length + " parameters: " + told);
        }
        arguments = new Object[parts.length];
        for (int i = 0; i < parts.length; i++) {
            arguments[i] = argument(parts[i], types[i]);
        }
    }

    private static Map<String, Method> methods() {
        Map<String, Method> all = new HashMap<>();
        for (Method m : TablePager.class.getDeclaredMethods()) {
            if (Modifier.isPublic(m.getModifiers())) {
                all.put(m.getName(), m);
            }
        }
        return all;
    }

    static Set<String> names() {
        return METHODS.keySet();
    }

    private static Object argument(String part, Class<?> type) {
        if (type == boolean.class) {
            if (!part.equals("true") && !part.equals("false")) {
                throw new AssertionError("this is no boolean: " + part);
            }
            return part.equals("true");
        }
        if (type == long.class) {
            return part.equals("least") ? Long.MIN_VALUE : part.equals("most") ? Long.MAX_VALUE : Long.parseLong(part);
        }
        return part.equals("least") ? Integer.MIN_VALUE : part.equals("most") ? Integer.MAX_VALUE
                : Integer.parseInt(part);
    }

    /** The number that it answers, or throws. and the name of the exception's class. */
    String answerOf(TablePager x) {
        try {
            return String.valueOf(method.invoke(x, arguments));
        } catch (InvocationTargetException e) {
            return "throws." + e.getCause().getClass().getSimpleName();
        } catch (IllegalAccessException e) {
            throw new AssertionError("the method is not public: " + told);
        }
    }

    @Override
    public String toString() {
        return told;
    }
}
