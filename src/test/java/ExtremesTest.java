import java.lang.reflect.InvocationTargetException;
import java.lang.reflect.Method;
import java.util.Arrays;
import java.util.Comparator;
import java.util.Random;

/** No call ever throws, for whatever numbers in whatever state, and no number ever leaves its range. */
public final class ExtremesTest {
    private static final int OBJECTS = 1500, CALLS = 440;
    private static final int[] NUMBERS = {Integer.MIN_VALUE, Integer.MIN_VALUE + 1, -1000000, -128, -100, -59, -15, -10, -5, -3, -2, -1, 0, 1, 2, 3, 4,
        5, 6, 7, 8, 9, 10, 11, 12, 19, 20, 23, 27, 28, 29, 49, 50, 55, 59, 60, 61, 66, 70, 77, 99, 100, 119, 120, 127, 128, 255, 256, 10000, 10100,
        302812, 310100, 1 << 16, 1 << 24, 1 << 30, Integer.MAX_VALUE - 60, Integer.MAX_VALUE - 1, Integer.MAX_VALUE};
    private static final String SIGNS = "kowvfd0123456789|&<=>+-*/%!()?;";
    private static final int[] LEAST = {0, 0, 0, 1, 0, 0, 0, 0};
    private static final int[] MOST = {127, 99, 255, 9, 3, 7, 99, 6};

    private static int wrong;
    private static int calls;

    private static void fault(String what) {
        wrong++;
        if (wrong < 20) System.out.println(what);
    }

    private static Method[] methods() {
        Method[] all = Arrays.stream(OneLeg.class.getDeclaredMethods())
            .filter(m -> java.lang.reflect.Modifier.isPublic(m.getModifiers())).toArray(Method[]::new);
        Arrays.sort(all, Comparator.comparing(Method::getName));
        return all;
    }

    /** A number that may be anything, or more often one that a call can use. */
    private static Object argument(Class<?> type, Random random) {
        int n = random.nextInt(4) > 0 ? random.nextInt(8) : NUMBERS[random.nextInt(NUMBERS.length)];
        if (type == int.class) return n;
        return random.nextBoolean() ? Long.valueOf(n) : Long.valueOf(random.nextLong());
    }

    private static void call(OneLeg x, Method m, Random random) throws IllegalAccessException {
        Object[] arguments = new Object[m.getParameterCount()];
        for (int i = 0; i < arguments.length; i++) arguments[i] = argument(m.getParameterTypes()[i], random);
        if (m.getName().equals("feed") && random.nextInt(9) > 0) arguments[0] = (int) SIGNS.charAt(random.nextInt(SIGNS.length()));
        calls++;
        try {
            m.invoke(x, arguments);
        } catch (InvocationTargetException e) {
            fault(m.getName() + Arrays.toString(arguments) + " threw " + e.getCause());
        }
    }

    private static void inRange(String what, long v, long least, long most) {
        if (v < least || v > most) fault(what + " is " + v);
    }

    private static void looksRight(OneLeg x) {
        int brothers = x.count(0);
        inRange("how many BROTHERS", brothers, 0, 7);
        for (int what = 0; what < 8; what++) {
            int numbers = what < 4 ? brothers : what < 6 ? 7 : 1;
            for (int number = 0; number < numbers; number++) inRange("of " + what, x.of(number, what), LEAST[what], MOST[what]);
        }
        int[] most = {7, 8, 120, 40, 50, 14};
        for (int what = 0; what < 6; what++) inRange("count " + what, x.count(what), 0, most[what]);
    }

    public static void main(String[] args) throws IllegalAccessException {
        Method[] methods = methods();
        for (int seed = 0; seed < OBJECTS; seed++) {
            Random random = new Random(seed);
            OneLeg x = new OneLeg();
            for (int b = seed % 8; b > 0; b--) x.brother(random.nextInt(128));
            // some objects know one method well, so that what fills up is filled
            Method favourite = methods[random.nextInt(methods.length)];
            for (int i = 0; i < CALLS; i++) {
                Method m = random.nextInt(4) == 0 ? favourite : methods[random.nextInt(methods.length)];
                if (m.getName().equals("bestRota") && random.nextInt(10) > 0) continue;
                call(x, m, random);
            }
            looksRight(x);
        }
        System.out.println(calls + " calls, " + (wrong == 0 ? "none threw, all numbers stay in their ranges" : wrong + " faults"));
        if (wrong > 0) System.exit(1);
    }
}
