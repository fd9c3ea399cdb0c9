import java.lang.reflect.Method;
import java.util.HashMap;
import java.util.Map;

/** A call by its name, so that what is printed of it and what is asked can't differ. */
final class Call {
    private static final Map<String, Method> BY_NAME = new HashMap<>();

    static {
        for (Method m : OneReader.class.getDeclaredMethods()) {
            if (java.lang.reflect.Modifier.isPublic(m.getModifiers())) {
                BY_NAME.put(m.getName(), m);
            }
        }
    }

    private Call() {
    }

    static long on(OneReader x, String name, int... args) {
        Object[] boxed = new Object[args.length];
        for (int i = 0; i < args.length; i++) {
            boxed[i] = args[i];
        }
        try {
            return ((Number) BY_NAME.get(name).invoke(x, boxed)).longValue();
        } catch (ReflectiveOperationException e) {
            throw new IllegalStateException(told(name, args), e);
        }
    }

    static String told(String name, int... args) {
        StringBuilder call = new StringBuilder(name).append('(');
        for (int i = 0; i < args.length; i++) {
            call.append(i == 0 ? "" : ", ").append(args[i]);
        }
        return call.append(')').toString();
    }
}
