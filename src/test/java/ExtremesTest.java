import java.lang.reflect.InvocationTargetException;
import java.lang.reflect.Method;
import java.util.Arrays;
import java.util.Comparator;

/** No call throws, whatever it is given: every public method by far and near numbers, on yards of several kinds. */
public final class ExtremesTest {
    private static final long[] NUMBERS = {
        Integer.MIN_VALUE, Integer.MIN_VALUE + 1, -65536, -257, -17, -2, -1, 0, 1, 2, 3, 5, 7, 8, 11, 12, 15, 16, 17, 24,
        25, 48, 59, 60, 61, 63, 64, 99, 100, 101, 113, 255, 256, 521, 999, 3012, 3013, 65536, Integer.MAX_VALUE - 1,
        Integer.MAX_VALUE};
    private static final int CALLS = 400;
    private static int wrong = 0;
    private static long z = 20261119;

    public static void main(String[] args) throws Exception {
        Method[] methods = HayRemembers.class.getDeclaredMethods();
        Arrays.sort(methods, Comparator.comparing(Method::getName));
        for (int round = 0; round < 2000; round++) {
            HayRemembers x = yard(round);
            for (int call = 0; call < CALLS && wrong < 20; call++) {
                Method m = methods[below(methods.length)];
                if (java.lang.reflect.Modifier.isPublic(m.getModifiers())) {
                    call(x, m);
                }
            }
        }
        System.out.println(wrong == 0 ? "no call throws" : wrong + " calls threw");
        if (wrong != 0) {
            System.exit(1);
        }
    }

    private static int below(int n) {
        z = z * 6364136223846793005L + 1442695040888963407L;
        return (int) ((z >>> 33) % n);
    }

    private static HayRemembers yard(int round) {
        HayRemembers x = new HayRemembers();
        for (int rick = 0; rick < round % 5; rick++) {
            x.rick();
            for (int i = 0; i < round / 5 % 13; i++) {
                x.lay(rick, 100 * (1 + below(9)) + 10 * below(8) + below(8));
            }
        }
        for (int shelf = 0; shelf < round % 7; shelf++) {
            x.row(shelf, shelf % 5, round % 61);
            for (int i = 0; i < round % 61; i++) {
                x.put(shelf, i, shelf % 5 == 1 ? 100 + below(800) : below(64));
            }
        }
        return x;
    }

    private static void call(HayRemembers x, Method m) throws Exception {
        Object[] given = new Object[m.getParameterCount()];
        for (int i = 0; i < given.length; i++) {
            long v = below(3) == 0 ? NUMBERS[below(NUMBERS.length)] : below(2) == 0 ? below(4) : below(13);
            if (m.getParameterTypes()[i] == long.class) {
                given[i] = below(4) == 0 ? v << 32 : v;
            } else {
                given[i] = (int) v;
            }
        }
        try {
            m.invoke(x, given);
        } catch (InvocationTargetException e) {
            wrong++;
            System.out.println(m.getName() + Arrays.toString(given) + " threw " + e.getCause());
        }
    }
}
