import java.lang.reflect.Constructor;
import java.lang.reflect.Field;
import java.lang.reflect.Method;
import java.lang.reflect.Modifier;
import java.util.Map;
import java.util.Set;
import java.util.TreeMap;
import java.util.TreeSet;

/** The face is the document's and nothing more. */
public final class FaceTest {
    private static final Due DUE = new Due("FaceTest");

    private static final String[] METHODS = {
        "int person 3", "int note 3", "int set 3", "int told 2", "int feed 1", "int text 0", "int force 1",
        "int lies 1", "int top 1", "int read 2", "int knew 2", "int done 2", "int when 2", "int things 1",
        "int harm 0", "int helps 1", "int once 1", "int whose 2", "int mark 2", "long orders 0", "long odds 3",
        "int place 2", "int came 1", "int image 0", "int back 0", "int count 1", "int sheet 3", "int cell 3",
        "int copy 5", "int notes 4", "int taken 2"};

    public static void main(String[] args) {
        DUE.is("NONE", KitchenTable.NONE, -1);
        DUE.is("BAD", KitchenTable.BAD, -2);
        DUE.is("STATE", KitchenTable.STATE, -3);
        DUE.is("FULL", KitchenTable.FULL, -4);
        DUE.is("NO", KitchenTable.NO, -4611686018427387904L);
        methods();
        fieldsAndConstructors();
        DUE.end();
    }

    private static void methods() {
        Set<String> seen = new TreeSet<>();
        Set<String> hidden = new TreeSet<>();
        for (Method m : KitchenTable.class.getDeclaredMethods()) {
            if (Modifier.isPrivate(m.getModifiers()) || m.isSynthetic()) {
                hidden.add(m.getName());
                continue;
            }
            DUE.holds("public, not static: " + m.getName(),
                Modifier.isPublic(m.getModifiers()) && !Modifier.isStatic(m.getModifiers()));
            for (Class<?> type : m.getParameterTypes()) {
                DUE.holds("an int: " + m.getName(), type == int.class);
            }
            seen.add(m.getReturnType() + " " + m.getName() + " " + m.getParameterCount());
        }
        DUE.holds("the methods: " + seen, seen.equals(new TreeSet<>(Set.of(METHODS))));
        for (String method : METHODS) {
            DUE.holds("no private method named as " + method, !hidden.contains(method.split(" ")[1]));
        }
    }

    private static void fieldsAndConstructors() {
        Map<String, Class<?>> constants = new TreeMap<>();
        for (Field f : KitchenTable.class.getDeclaredFields()) {
            if (!Modifier.isPrivate(f.getModifiers())) {
                DUE.holds("a public constant: " + f.getName(),
                    Modifier.isPublic(f.getModifiers()) && Modifier.isStatic(f.getModifiers())
                        && Modifier.isFinal(f.getModifiers()));
                constants.put(f.getName(), f.getType());
            }
        }
        DUE.holds("the constants: " + constants, constants.equals(new TreeMap<>(Map.of("NONE", int.class,
            "BAD", int.class, "STATE", int.class, "FULL", int.class, "NO", long.class))));
        Constructor<?>[] all = KitchenTable.class.getDeclaredConstructors();
        DUE.is("constructors", all.length, 1);
        DUE.holds("it is public, of nothing",
            Modifier.isPublic(all[0].getModifiers()) && all[0].getParameterCount() == 0);
        DUE.holds("a final class", Modifier.isFinal(KitchenTable.class.getModifiers()));
        for (Class<?> inner : KitchenTable.class.getDeclaredClasses()) {
            DUE.holds("static, neither public nor protected: " + inner, Modifier.isStatic(inner.getModifiers())
                && !Modifier.isPublic(inner.getModifiers()) && !Modifier.isProtected(inner.getModifiers()));
        }
    }
}
