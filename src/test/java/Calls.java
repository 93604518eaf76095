import java.lang.reflect.Method;
import java.util.Map;
import java.util.TreeMap;

/** Calls of the class by their names, so that a row of a table can be a call. */
final class Calls {
    private static final Map<String, Method> BY_NAME = new TreeMap<>();

    static {
        for (Method m : KitchenTable.class.getMethods()) {
            if (m.getDeclaringClass() == KitchenTable.class) {
                BY_NAME.put(m.getName(), m);
            }
        }
    }

    private Calls() { }

    static long answer(KitchenTable x, String name, int... args) {
        Object[] all = new Object[args.length];
        for (int i = 0; i < args.length; i++) {
            all[i] = args[i];
        }
        try {
            return ((Number) BY_NAME.get(name).invoke(x, all)).longValue();
        } catch (ReflectiveOperationException e) {
            throw new IllegalStateException(told(name, args), e);
        }
    }

    static String told(String name, int... args) {
        StringBuilder told = new StringBuilder(name).append('(');
        for (int i = 0; i < args.length; i++) {
            told.append(i == 0 ? "" : ", ").append(args[i]);
        }
        return told.append(')').toString();
    }
}
