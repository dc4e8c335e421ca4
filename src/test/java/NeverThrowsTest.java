import java.lang.reflect.InvocationTargetException;
import java.lang.reflect.Method;
import java.util.Arrays;
import java.util.Comparator;
import java.util.Random;

/** Calls of every kind with arguments of every kind, far beyond the 512th: none may throw. */
public final class NeverThrowsTest {
    private static final int[] EDGES = {
        Integer.MIN_VALUE, Integer.MIN_VALUE + 1, -100, -11, -10, -5, -1, 0, 1, 2, 3, 4, 5, 6, 8, 9, 10, 11, 15, 16,
        18, 19, 63, 64, 65, 99, 100, 160, 999, 1000, 12345678, 876543210, Integer.MAX_VALUE - 1, Integer.MAX_VALUE};
    private static final String[] TEXTS = {
        "by+rank;", "by +worth drop;", "by -left,+paid if room>0;", "by -number if worth>3 drop;"};

    public static void main(String[] args) throws Exception {
        Method[] all = Arrays.stream(PairedComing.class.getDeclaredMethods())
            .filter(m -> java.lang.reflect.Modifier.isPublic(m.getModifiers())).toArray(Method[]::new);
        Arrays.sort(all, Comparator.comparing(Method::getName));
        long calls = 0;
        for (int seed = 0; seed < 60; seed++) {
            Random random = new Random(seed);
            PairedComing x = new PairedComing();
            for (int i = 0; i < 3000; i++) {
                if (random.nextInt(40) == 0) tell(x, TEXTS[random.nextInt(TEXTS.length)]);
                Method m = all[random.nextInt(all.length)];
                Object[] with = new Object[m.getParameterCount()];
                for (int a = 0; a < with.length; a++) with[a] = argument(m.getParameterTypes()[a], random);
                calls++;
                try {
                    m.invoke(x, with);
                } catch (InvocationTargetException e) {
                    System.out.println("seed " + seed + ", call " + i + ": " + m.getName() + Arrays.toString(with)
                        + " threw " + e.getCause());
                    System.exit(1);
                }
            }
        }
        System.out.println(calls + " calls, none threw");
    }

    private static void tell(PairedComing x, String text) {
        x.end(0);
        for (int i = 0; i < text.length(); i += 8) {
            long v = 0;
            for (int j = i; j < i + 8; j++) v = v << 8 | (j < text.length() ? text.charAt(j) : ' ');
            x.feed(v);
        }
        x.rule();
    }

    private static Object argument(Class<?> type, Random random) {
        int some = random.nextInt(3) > 0 ? random.nextInt(10) : EDGES[random.nextInt(EDGES.length)];
        if (type == int.class) return some;
        return random.nextInt(3) == 0 ? random.nextLong() : random.nextBoolean() ? some : Long.MIN_VALUE + some;
    }
}
