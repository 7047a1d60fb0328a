import java.lang.reflect.InvocationTargetException;
import java.lang.reflect.Method;

/** Calls a method of the face by its name, on the class or on the model. */
final class Calls {
    private Calls() {
    }

    /** Answers the number that the call answers, or the class of what it throws. */
    static String answer(Object on, String name, int... args) {
        Method method = find(on.getClass(), name);
        Object[] values = new Object[args.length];
        for (int i = 0; i < args.length; i++) {
            boolean truth = method.getParameterTypes()[i] == boolean.class;
            values[i] = truth ? (Object) (args[i] != 0) : (Object) args[i];
        }
        try {
            return String.valueOf(method.invoke(on, values));
        } catch (InvocationTargetException e) {
            return e.getCause().getClass().getSimpleName();
        } catch (IllegalAccessException e) {
            throw new IllegalStateException(e);
        }
    }

    static Method find(Class<?> type, String name) {
        for (Method method : type.getDeclaredMethods()) {
            if (method.getName().equals(name) && java.lang.reflect.Modifier.isPublic(method.getModifiers())) {
                return method;
            }
        }
        throw new IllegalStateException("no method " + name);
    }
}
