import java.lang.reflect.Method;
import java.lang.reflect.Modifier;
import java.util.ArrayList;
import java.util.Comparator;
import java.util.List;
import java.util.Random;

/** No call throws, whatever its arguments are: 512 calls by chance (always the same ones) on each new object. */
public final class AnyArgumentsTest {
    private static final int RUNS = 2000, CALLS = 512;
    private static final Due DUE = new Due("AnyArgumentsTest");

    public static void main(String[] args) {
        List<Method> calls = new ArrayList<>();
        for (Method m : KitchenTable.class.getDeclaredMethods()) {
            if (Modifier.isPublic(m.getModifiers())) {
                calls.add(m);
            }
        }
        calls.sort(Comparator.comparing(Method::getName));
        Random chance = new Random(47);
        for (int run = 0; run < RUNS; run++) {
            KitchenTable x = new KitchenTable();
            int ordinary = chance.nextInt(10);
            for (int i = 0; i < CALLS; i++) {
                Method m = calls.get(chance.nextInt(calls.size()));
                call(x, m, chance, ordinary);
            }
        }
        longestTexts();
        DUE.end();
    }

    private static void call(KitchenTable x, Method m, Random chance, int ordinary) {
        Object[] args = new Object[m.getParameterCount()];
        for (int i = 0; i < args.length; i++) {
            int any = chance.nextInt();
            args[i] = chance.nextInt(10) <= ordinary ? chance.nextInt(chance.nextInt(8) == 0 ? 260 : 12) - 1
                : chance.nextInt(3) == 0 ? any : chance.nextBoolean() ? Integer.MAX_VALUE - (any & 3)
                : Integer.MIN_VALUE + (any & 3);
        }
        boolean went = true;
        try {
            m.invoke(x, args);
        } catch (ReflectiveOperationException e) {
            e.printStackTrace(System.out);
            went = false;
        }
        DUE.holds(m.getName(), went);
    }

    /** Texts that fill the tape with as many steps, and as much that waits, as can be. */
    private static void longestTexts() {
        String[] units = {"-----1*", "-1*", "1+", "-1-", "1<1 and ", "not -1 or ", "1=(1<(1+(1*(1 and 1+1)))) or "};
        for (String unit : units) {
            StringBuilder text = new StringBuilder("do ");
            while (text.length() + unit.length() + "1;take 1;care 1;".length() <= 160) {
                text.append(unit);
            }
            text.append("1;take 1;care 1;");
            KitchenTable x = new KitchenTable();
            DUE.is("a text of " + text, Due.text(x, text.toString()), 1);
            x.force(1);
            x.person(0, 1, 129);
            x.note(4, 0, 0);
            DUE.holds("it is done by it: " + text, x.done(0, -1) >= 0);
        }
        StringBuilder deep = new StringBuilder();
        for (int i = 0; i < 160; i++) {
            deep.append(i == 0 ? 'd' : i == 1 ? 'o' : '(');
        }
        DUE.is("deep", Due.text(new KitchenTable(), deep.toString()), -107);
    }
}
