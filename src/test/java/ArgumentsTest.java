import java.lang.reflect.Method;
import java.lang.reflect.Modifier;
import java.util.Arrays;

/**
 * Each call of the face with all that its arguments can be about their bounds, in all combinations,
 * held against the plain town: which of several refusals is told first, and what is no refusal.
 */
public final class ArgumentsTest {
    private static final int MIN = Integer.MIN_VALUE, MAX = Integer.MAX_VALUE;
    private static final int MOST_CALLS = 512;
    /** The less arguments a call has, the more is tried of each. */
    private static final int[][] VALUES = {
        {},
        {MIN, -101, -3, -2, -1, 0, 1, 2, 3, 4, 5, 6, 7, 8, 9, 10, 11, 12, 13, 15, 16, 31, 32, 63, 64, 255, 256, 511, 512, 4095, 4096, MAX - 1, MAX},
        {MIN, -2, -1, 0, 1, 2, 3, 4, 5, 6, 7, 8, 9, 10, 11, 12, 20, 21, 22, 23, 24, 50, 98, 99, 100, 511, 512, 99999, 100000, MAX},
        {MIN, -2, -1, 0, 1, 2, 3, 4, 5, 6, 8, 9, 12, 39, 40, 41, 255, 511, 512, MAX},
        {MIN, -1, 0, 1, 2, 3, 5, 6, 10, 11, 50, 51, MAX},
        {MIN, -1, 0, 1, 2, 3, 4, 5, MAX},
        {-1, 0, 1, 5, 6, 255, 256}};
    /** Towns without anything, and with something of all. */
    private static final int TOWNS = 3;

    private static int rows = 0, wrong = 0;

    private HomeByAnotherWay x;
    private PlainTown plain;
    private int made;

    public static void main(String[] args) throws Exception {
        for (Method m : HomeByAnotherWay.class.getDeclaredMethods()) {
            if (!Modifier.isPublic(m.getModifiers())) continue;
            for (int town = 0; town < TOWNS; town++) new ArgumentsTest().all(m, town);
        }
        System.out.println(wrong == 0 ? rows + " calls are as due" : wrong + " of " + rows + " calls are not as due");
        if (wrong != 0) System.exit(1);
    }

    private void all(Method m, int town) throws Exception {
        int many = m.getParameterCount();
        int[] values = VALUES[many], at = new int[many];
        made = MOST_CALLS;
        boolean more = true;
        while (more && wrong < 20) {
            if (made >= MOST_CALLS - 8) begin(town);
            Object[] args = new Object[many];
            for (int i = 0; i < many; i++) args[i] = values[at[i]];
            call(m, args);
            if (town == TOWNS - 1) still();
            more = false;
            for (int i = many - 1; i >= 0 && !more; i--) {
                more = ++at[i] < values.length;
                if (!more) at[i] = 0;
            }
        }
    }

    private void begin(int town) throws Exception {
        x = new HomeByAnotherWay();
        plain = new PlainTown();
        made = 0;
        if (town == 0) return;
        int[][] streets = {{0, 1, 5, 2}, {0, 12, 4, 1}, {1, 20, 6, 3}, {5, 12, 3, 1}, {3, 10, 2, 1}, {2, 3, 1, 4}, {4, 30, 2, 90}};
        for (int[] s : streets) call("street", s[0], s[1], s[2], s[3]);
        for (int i = 0; i < "walk base;carry more;may street<7;".length(); i++) call("feed", 1, (int) "walk base;carry more;may street<7;".charAt(i), 0, 0, 0, 0);
        call("text");
        call("image");
        call("sheet", 0, 0, 5);
        call("sheet", 1, 0, 3);
        call("sheet", 2, 2, 40);
        call("cell", 0, 1, 3);
        call("cell", 2, 1, 12);
        call("cell", 2, 2, 7);
        if (town == 1) return;
        for (int i = 0; i < 5; i++) call("street", i, 45, 1, 0);
        for (int i = 0; i < 30; i++) call("feed", 5, 32, 32, 32, 32, 32);
        call("feed", 4, 'w', 'a', 'l', 'k', 0);
        call("set", 0, 2);
        call("set", 1, 12);
        call("set", 2, 1);
        call("gone", 2);
        call("force", 1);
    }

    /** What has changed tells itself in the counts. */
    private void still() throws Exception {
        for (int what : new int[] {0, 3, 4, 7}) call("count", what);
    }

    private void call(String name, int... args) throws Exception {
        for (Method m : HomeByAnotherWay.class.getDeclaredMethods()) {
            if (m.getName().equals(name) && Modifier.isPublic(m.getModifiers())) call(m, Arrays.stream(args).boxed().toArray());
        }
    }

    private void call(Method m, Object... args) throws Exception {
        Method same = PlainTown.class.getDeclaredMethod(m.getName(), m.getParameterTypes());
        long got = ((Number) m.invoke(x, args)).longValue(), want = ((Number) same.invoke(plain, args)).longValue();
        rows++;
        made++;
        if (got == want) return;
        wrong++;
        System.out.println(m.getName() + Arrays.toString(args) + " answered " + got + ", due is " + want);
    }
}
