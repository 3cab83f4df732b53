import java.lang.reflect.InvocationTargetException;
import java.lang.reflect.Method;
import java.util.HashMap;
import java.util.List;
import java.util.Map;

/** One call of the face by its name, on the class or on the model beside it. */
record Call(String name, long... values) {
    /** What a call that throws is said to answer: no answer of the document is so low. */
    static final long THREW = Long.MIN_VALUE;

    private static final Map<String, Method> FACE = face();

    private static Map<String, Method> face() {
        Map<String, Method> face = new HashMap<>();
        for (Method method : MetAngles.class.getMethods()) {
            if (method.getDeclaringClass() == MetAngles.class) {
                face.put(method.getName(), method);
            }
        }
        return face;
    }

    private static Method named(String name) {
        Method method = FACE.get(name);
        if (method == null) {
            throw new IllegalStateException("the face has no " + name);
        }
        return method;
    }

    static List<String> names() {
        return FACE.keySet().stream().sorted().toList();
    }

    static Class<?>[] types(String name) {
        return named(name).getParameterTypes();
    }

    long on(Object object) {
        try {
            Class<?>[] types = types(name);
            Object[] given = new Object[types.length];
            for (int i = 0; i < types.length; i++) {
                given[i] = types[i] == long.class ? (Object) values[i] : (Object) Math.toIntExact(values[i]);
            }
            Method method = object.getClass().getDeclaredMethod(name, types);
            method.setAccessible(true);
            return ((Number) method.invoke(object, given)).longValue();
        } catch (InvocationTargetException thrown) {
            return THREW;
        } catch (ReflectiveOperationException wrong) {
            throw new IllegalStateException(this + " can't be called", wrong);
        }
    }

    @Override
    public String toString() {
        StringBuilder text = new StringBuilder(name).append('(');
        for (int i = 0; i < values.length; i++) {
            text.append(i == 0 ? "" : ", ").append(values[i]);
        }
        return text.append(')').toString();
    }
}
