import java.lang.reflect.Method;
import java.lang.reflect.Modifier;
import java.util.Random;

/** Calls with any arguments in any state: none throws, a refusal answers NONE or false, and an answer has STATUS 0. */
public final class StormTest {
    private static final Random RANDOM = new Random(42);
    private static final int[] EDGES = {Integer.MIN_VALUE, Integer.MAX_VALUE, -1, 0, 1, 2, 3, 4, 5, 6, 7, 8, 9, 10, 12, 13,
        15, 16, 17, 20, 21, 40, 41, 59, 60, 61, 98, 99, 100, 127, 128, 300, 301, 900, 901, 999, 1000, 9999, 10000};

    public static void main(String[] args) throws ReflectiveOperationException {
        for (int run = 0; run < 600; run++) {
            oneRun();
        }
        Check.end();
    }

    private static void oneRun() throws ReflectiveOperationException {
        IvyHouse x = new IvyHouse();
        for (int call = 0; call < 512; call++) {
            if (RANDOM.nextInt(40) == 0) {
                String text = ModelTest.houseText();
                Check.house(x, text.substring(0, Math.min(900, text.length())));
            } else if (RANDOM.nextInt(40) == 0) {
                Check.times(x, "loop 9;any;when paid 1;stop;end;year 3;pay 0;snip 1 2;end;pay 2;");
            } else {
                anyCall(x);
            }
        }
    }

    private static void anyCall(IvyHouse x) throws ReflectiveOperationException {
        Method[] methods = IvyHouse.class.getDeclaredMethods();
        Method m = methods[RANDOM.nextInt(methods.length)];
        if (!Modifier.isPublic(m.getModifiers())) {
            return;
        }
        Object[] arguments = new Object[m.getParameterCount()];
        for (int i = 0; i < arguments.length; i++) {
            Class<?> type = m.getParameterTypes()[i];
            int n = RANDOM.nextInt(3) == 0 ? EDGES[RANDOM.nextInt(EDGES.length)] : RANDOM.nextInt(8);
            arguments[i] = type == boolean.class ? (Object) RANDOM.nextBoolean() : type == long.class ? (Object) (long) n : (Object) n;
        }
        Object answer = m.invoke(x, arguments);
        boolean none = Boolean.FALSE.equals(answer) || Integer.valueOf(-1).equals(answer) || Long.valueOf(-1).equals(answer);
        boolean hasStatus = !java.util.List.of("status", "top", "bottom", "feed", "fault", "net", "read").contains(m.getName());
        if (hasStatus) {
            Check.due(m.getName() + ": refused by STATUS", none, x.status() != 0);
        }
        Check.due("bottom()", x.bottom() > 0, true);
    }
}
