import java.lang.reflect.Method;
import java.lang.reflect.Modifier;
import java.util.Arrays;
import java.util.Comparator;

/** No call throws, for any arguments in any state; what is refused, and what is asked, changes nothing. */
final class AnyArgumentsTest {
    private static final int[] NUMBERS = {Integer.MIN_VALUE, Integer.MIN_VALUE + 1, -10001, -100, -14, -8, -5, -4, -3,
        -2, -1, 0, 1, 2, 3, 4, 5, 6, 7, 8, 9, 10, 11, 12, 17, 18, 20, 25, 27, 28, 30, 31, 36, 38, 59, 60, 61, 99, 100,
        101, 127, 128, 255, 256, 1000, 9999, 10000, 65536, 1 << 30, Integer.MAX_VALUE - 1, Integer.MAX_VALUE};
    /** What changes the state where it is not refused. */
    private static final String TELLING = " head set drawer knot shelve row feed theatre pass see plan book image undo"
        + " act tape item shift ";
    private static final int RUNS = 250, CALLS = 512;

    private static long seed = 5;

    private static int below(int n) {
        seed = seed * 6364136223846793005L + 1442695040888963407L;
        return (int) ((seed >>> 33) % n);
    }

    private static Object some(Class<?> type) {
        if (type == boolean.class) {
            return below(2) == 0;
        }
        int n = below(3) == 0 ? NUMBERS[below(NUMBERS.length)] : below(9) - 1;
        if (type == long.class) {
            return below(2) == 0 ? (long) n : seed;
        }
        return n;
    }

    /** All that can be told of the state, but what HEADS look like: that follows from the rest. */
    private static long[] state(HairAtATime x) {
        long[] all = new long[6 * 29 + 40 + 8 + 22 + 6 * 60];
        int at = 0;
        for (int p = 0; p < 6; p++) {
            for (int what = 0; what < 29; what++) {
                all[at++] = what == 8 ? 0 : x.of(p, what);
            }
        }
        for (int what = 0; what < 40; what++) {
            all[at++] = x.told(what);
        }
        for (int what = 0; what < 8; what++) {
            all[at++] = x.count(what);
        }
        for (int i = 0; i < 20; i++) {
            all[at++] = x.trace(i);
        }
        all[at++] = x.looked();
        all[at++] = x.wrong();
        for (int tape = 0; tape < 6; tape++) {
            for (int i = 0; i < 60; i++) {
                all[at++] = x.read(tape, i);
            }
        }
        return all;
    }

    private static boolean isRefused(String call, Object answer) {
        return answer instanceof Integer && (Integer) answer < 0 && !call.equals("theatre") && !call.equals("act");
    }

    public static void main(String[] args) {
        Checks checks = new Checks("AnyArgumentsTest");
        Method[] calls = Arrays.stream(HairAtATime.class.getDeclaredMethods())
            .filter(m -> Modifier.isPublic(m.getModifiers()))
            .sorted(Comparator.comparing(Method::getName)).toArray(Method[]::new);
        for (int run = 0; run < RUNS; run++) {
            HairAtATime x = new HairAtATime();
            for (int i = 0; i < CALLS; i++) {
                Method call = calls[below(calls.length)];
                Object[] given = Arrays.stream(call.getParameterTypes()).map(AnyArgumentsTest::some).toArray();
                long[] were = i % 8 == 0 ? state(x) : null;
                Object answer;
                try {
                    answer = call.invoke(x, given);
                } catch (ReflectiveOperationException e) {
                    checks.holds(call.getName() + Arrays.toString(given) + " threw " + e.getCause(), false);
                    break;
                }
                boolean asks = !TELLING.contains(" " + call.getName() + " ");
                if (were != null && (asks || isRefused(call.getName(), answer))) {
                    checks.holds(call.getName() + Arrays.toString(given) + " answered " + answer
                        + " and changed nothing", Arrays.equals(were, state(x)));
                }
                if (below(40) == 0) {
                    Checks.theatre(x, "warm 9 p<3;rain " + below(4));
                }
            }
        }
        checks.end();
    }
}
