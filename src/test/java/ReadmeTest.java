import java.io.IOException;
import java.lang.reflect.Method;
import java.lang.reflect.Modifier;
import java.nio.file.Files;
import java.nio.file.Path;
import java.util.Arrays;
import java.util.Comparator;
import java.util.Map;
import java.util.Random;
import java.util.Set;
import java.util.TreeMap;
import java.util.TreeSet;
import java.util.regex.Matcher;
import java.util.regex.Pattern;

/** What README.md says of the class: each call in it is made, and its table is held against drawn calls. */
public final class ReadmeTest {
    private static final int OBJECTS = 2000, CALLS = 480;
    private static final int[] NUMBERS = {Integer.MIN_VALUE, -100, -1, 9, 10, 11, 12, 20, 21, 28, 29, 60, 61, 100, 128, 256, 10100, 10200, Integer.MAX_VALUE};
    /** What these answer is any number, so that a refusal can't be told by its sign. */
    private static final Set<String> OF_ANY_WORTH = Set.of("act", "element", "byTurns");

    private static int wrong;

    private static void hold(boolean holds, String what) {
        if (holds) return;
        wrong++;
        System.out.println("not so: " + what);
    }

    private static Method[] methods() {
        Method[] all = Arrays.stream(OneLeg.class.getDeclaredMethods())
            .filter(m -> Modifier.isPublic(m.getModifiers())).toArray(Method[]::new);
        Arrays.sort(all, Comparator.comparing(Method::getName));
        return all;
    }

    private static Method named(String name) {
        for (Method m : methods()) if (m.getName().equals(name)) return m;
        throw new IllegalArgumentException(name + " is no method");
    }

    private static long call(OneLeg x, Method m, long... numbers) throws ReflectiveOperationException {
        Object[] arguments = new Object[numbers.length];
        for (int i = 0; i < numbers.length; i++) {
            arguments[i] = m.getParameterTypes()[i] == long.class ? Long.valueOf(numbers[i]) : (Object) Integer.valueOf((int) numbers[i]);
        }
        return ((Number) m.invoke(x, arguments)).longValue();
    }

    // ---- the calls

    private static long numberOf(String written) {
        return written.charAt(0) == '\'' ? written.charAt(1) : Long.parseLong(written);
    }

    private static void makeTheCalls(String page) throws ReflectiveOperationException {
        Matcher line = Pattern.compile("(?m)^leg\\.(\\w+)\\((.*)\\); +// (-?\\d+)(:.*)?$").matcher(page);
        OneLeg x = new OneLeg();
        int made = 0;
        while (line.find()) {
            long[] numbers = line.group(2).isEmpty() ? new long[0]
                : Arrays.stream(line.group(2).split(", ")).mapToLong(ReadmeTest::numberOf).toArray();
            long answer = call(x, named(line.group(1)), numbers);
            hold(answer == Long.parseLong(line.group(3)), line.group() + " but it answered " + answer);
            made++;
        }
        int written = page.split("\nleg\\.", -1).length - 1;
        hold(made == written && made > 25, "each call was understood: " + made + " of " + written);
    }

    // ---- the table

    private static Map<String, Set<String>> table(String page) {
        Map<String, Set<String>> by = new TreeMap<>();
        Matcher row = Pattern.compile("(?m)^\\| (.*?) \\| .*? \\| (.*?) \\|$").matcher(page);
        while (row.find()) {
            Set<String> names = new TreeSet<>();
            Matcher name = Pattern.compile("`(\\w+)`").matcher(row.group(2));
            while (name.find()) names.add(name.group(1));
            by.put(row.group(1), names);
        }
        return by;
    }

    private static Map<Long, Set<String>> drawnRefusals() throws ReflectiveOperationException {
        Map<Long, Set<String>> refusals = new TreeMap<>();
        Method[] all = methods();
        for (int seed = 0; seed < OBJECTS; seed++) {
            Random random = new Random(seed);
            OneLeg x = new OneLeg();
            Method favourite = all[seed % all.length];
            for (int i = 0; i < CALLS; i++) {
                Method m = random.nextBoolean() ? favourite : all[random.nextInt(all.length)];
                long[] numbers = new long[m.getParameterCount()];
                for (int k = 0; k < numbers.length; k++) {
                    numbers[k] = random.nextInt(9) > 0 ? random.nextInt(8) : NUMBERS[random.nextInt(NUMBERS.length)];
                }
                if (m.getName().equals("bestRota")) numbers[0] = Math.min(numbers[0], 2);
                long answer = call(x, m, numbers);
                if (answer < 0 && !OF_ANY_WORTH.contains(m.getName())) {
                    refusals.computeIfAbsent(answer, a -> new TreeSet<>()).add(m.getName());
                }
            }
        }
        return refusals;
    }

    private static void checkRefusals(Map<String, Set<String>> table) throws ReflectiveOperationException {
        Map<Long, Set<String>> refusals = drawnRefusals();
        Set<String> bad = new TreeSet<>();
        for (Method m : methods()) {
            if (m.getParameterCount() > 0 && !OF_ANY_WORTH.contains(m.getName())) bad.add(m.getName());
        }
        Set<String> byOtherKind = new TreeSet<>(table.get("-11"));
        byOtherKind.addAll(table.get("-12"));
        same("BAD", bad, refusals.get(-1L));
        same("NOT", table.get("`NOT`, -2"), refusals.get(-2L));
        same("FULL", table.get("`FULL`, -3"), refusals.get(-3L));
        same("STATE", table.get("`STATE`, -5"), refusals.get(-5L));
        same("-11", table.get("-11"), refusals.get(-11L));
        same("-12", byOtherKind, refusals.get(-12L));
        same("-13", table.get("-13"), refusals.get(-13L));
        same("-14", table.get("-14"), refusals.get(-14L));
        for (long answer : refusals.keySet()) {
            boolean isTold = answer >= -3 || answer == -5 || answer <= -11 && answer >= -14;
            if (!isTold) hold(answer <= -100 && answer >= -220 && refusals.get(answer).equals(Set.of("law")), answer + " is of law alone");
        }
    }

    private static void same(String answer, Set<String> told, Set<String> drawn) {
        hold(told != null && told.equals(drawn), answer + " is told of " + told + ", drawn of " + drawn);
    }

    private static void checkTheThree(Map<String, Set<String>> table) {
        same("VOID", table.get("`VOID`, -2000000000"), Set.of("byTurns"));
        same("0", table.get("0"), Set.of("act"));
        same("Long.MIN_VALUE", table.get("`Long.MIN_VALUE`"), Set.of("element"));
        OneLeg x = new OneLeg();
        hold(x.byTurns(1, 1, 0) == OneLeg.VOID, "VOID without BROTHERS");
        x.body(0);
        hold(x.act(0, 0, 7) == 7 && x.count(5) == 1, "a BOOT walks");
        hold(x.act(1, 0, 7) == 0 && x.count(5) == 0 && x.trace(0) == OneLeg.BAD, "0 of no such BOOT, and no TRACE");
        hold(x.element(6, 0) == Long.MIN_VALUE, "no such SHELF");
        hold(x.element(0, 0) == Long.MIN_VALUE, "nothing there");
        x.keep(0, 0);
        hold(x.element(0, 0) == Long.MIN_VALUE, "a BOOT");
        x.row(0, 0, 1);
        hold(x.element(0, 1) == Long.MIN_VALUE, "a place that is not there");
        hold(x.brothers(1, 0, 1) == 0 && x.brothers(0, 0, 1) == -12, "brothers() of nothing, and of bytes");
    }

    public static void main(String[] args) throws IOException, ReflectiveOperationException {
        String page = Files.readString(Path.of("README.md"));
        makeTheCalls(page);
        Map<String, Set<String>> table = table(page);
        checkRefusals(table);
        checkTheThree(table);
        System.out.println(wrong == 0 ? "README.md tells what is so" : wrong + " lines of README.md are not so");
        if (wrong > 0) System.exit(1);
    }
}
