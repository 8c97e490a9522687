import java.lang.reflect.InvocationTargetException;
import java.lang.reflect.Method;
import java.lang.reflect.Modifier;
import java.util.Map;
import java.util.TreeMap;

/** Calls of the face by the names of the methods, so that the program and the model can be asked the same. */
final class Call {
    private static final Map<String, Method> PROGRAM = methods(RecordLayouts.class);
    private static final Map<String, Method> MODEL = methods(Model.class);

    private Call() {
    }

    /** The methods of the face have different names, and what is private does not belong to it. */
    static Map<String, Method> methods(Class<?> type) {
        Map<String, Method> methods = new TreeMap<>();
        for (Method method : type.getDeclaredMethods()) {
            if (!Modifier.isPrivate(method.getModifiers())) {
                methods.put(method.getName(), method);
            }
        }
        return methods;
    }

    /** The number that the call answers as a Long, or the name of the exception that it throws. */
    static Object answer(Object target, String name, Object... arguments) {
        Method method = (target instanceof Model ? MODEL : PROGRAM).get(name);
        if (method == null || method.getParameterCount() != arguments.length) {
            throw new IllegalStateException("there is no such call: " + name);
        }
        Object[] values = new Object[arguments.length];
        for (int i = 0; i < values.length; i++) {
            values[i] = value(arguments[i], method.getParameterTypes()[i]);
        }
        try {
            return ((Number) method.invoke(target, values)).longValue();
        } catch (InvocationTargetException e) {
            return "throws." + e.getCause().getClass().getSimpleName();
        } catch (IllegalAccessException e) {
            throw new IllegalStateException(name + " is private", e);
        }
    }

    private static Object value(Object argument, Class<?> type) {
        if (type == boolean.class) {
            return argument;
        }
        long number = ((Number) argument).longValue();
        return type == long.class ? (Object) number : (Object) Math.toIntExact(number);
    }
}
