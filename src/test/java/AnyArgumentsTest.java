import java.lang.reflect.Method;
import java.lang.reflect.Modifier;
import java.util.ArrayList;
import java.util.Arrays;
import java.util.Comparator;
import java.util.List;

/**
 * No call throws, for any arguments in any state; what is refused, and what is asked, changes nothing. What is answered
 * behind 512 calls is free, but LANGUAGE.md (7) wants that no call throws there either.
 */
final class AnyArgumentsTest {
    private static final int[] NUMBERS = {Integer.MIN_VALUE, Integer.MIN_VALUE + 1, -10001, -100, -14, -8, -5, -4, -3,
        -2, -1, 0, 1, 2, 3, 4, 5, 6, 7, 8, 9, 10, 11, 12, 17, 18, 20, 25, 27, 28, 30, 31, 36, 38, 59, 60, 61, 99, 100,
        101, 127, 128, 255, 256, 1000, 9999, 10000, 65536, 1 << 30, Integer.MAX_VALUE - 1, Integer.MAX_VALUE};
    /** What changes the state where it is not refused. */
    private static final String TELLING = " head set drawer knot shelve row feed theatre pass see plan book image undo"
        + " act tape item shift ";
    /** A look takes less than 200 calls, and an object 512. */
    private static final int RUNS = 250, CALLS = 500, LOOKED = 300;
    private static final int LONG_RUNS = 4, LONG_CALLS = 30000;

    private static final Checks CHECKS = new Checks("AnyArgumentsTest");
    private static long seed = 5;

    /** What was called so far, and with what. */
    private final List<Method> called = new ArrayList<>();
    private final List<Object[]> with = new ArrayList<>();

    private static int below(int n) {
        seed = seed * 6364136223846793005L + 1442695040888963407L;
        return (int) ((seed >>> 33) % n);
    }

    private static Object some(Class<?> type) {
        if (type == boolean.class) {
            return below(2) == 0;
        }
        int n = below(3) == 0 ? NUMBERS[below(NUMBERS.length)] : below(9) - 1;
        if (type == long.class) {
            return below(2) == 0 ? (long) n : seed;
        }
        return n;
    }

    private static Method named(Method[] calls, String name) {
        return Arrays.stream(calls).filter(call -> call.getName().equals(name)).findFirst().orElseThrow();
    }

    private static boolean isRefused(String call, Object answer) {
        return answer instanceof Integer && (Integer) answer < 0 && !call.equals("theatre") && !call.equals("act");
    }

    private static Object answer(HairAtATime x, Method call, Object[] given) {
        try {
            return call.invoke(x, given);
        } catch (ReflectiveOperationException e) {
            CHECKS.holds(call.getName() + Arrays.toString(given) + " threw " + e.getCause(), false);
            return null;
        }
    }

    /** An object behind the first calls of this run. */
    private HairAtATime behind(int calls) {
        HairAtATime x = new HairAtATime();
        for (int i = 0; i < calls; i++) {
            answer(x, called.get(i), with.get(i));
        }
        return x;
    }

    /** The latest call changed nothing. */
    private void latestChangedNothing(Object answer) {
        int calls = called.size();
        int look = below(Edges.looks());
        CHECKS.holds(called.get(calls - 1).getName() + Arrays.toString(with.get(calls - 1)) + " answered " + answer
            + " and changed nothing", Arrays.equals(Edges.look(look, behind(calls - 1)), Edges.look(look, behind(calls))));
    }

    /** Far behind 512 calls: what is answered there is not looked at. */
    private static void longRun(Method[] calls) {
        HairAtATime x = new HairAtATime();
        for (int i = 0; i < LONG_CALLS; i++) {
            Method call = i < 6 ? named(calls, "head") : calls[below(calls.length)];
            Object[] given = i < 6 ? new Object[] {i + 1, i, 9 * i}
                : Arrays.stream(call.getParameterTypes()).map(AnyArgumentsTest::some).toArray();
            CHECKS.holds(call.getName() + " answers, call " + i, answer(x, call, given) != null);
        }
    }

    private void run(Method[] calls) {
        HairAtATime x = new HairAtATime();
        // what is fed next; a line that ends makes a THEATRE of it
        String text = "";
        for (int i = 0; i < CALLS; i++) {
            if (text.isEmpty() && below(60) == 0) {
                text = "\nwarm 9 p<3;rain " + below(4) + "\n";
            }
            Method call = calls[below(calls.length)];
            Object[] given = Arrays.stream(call.getParameterTypes()).map(AnyArgumentsTest::some).toArray();
            if (!text.isEmpty()) {
                char sign = text.charAt(0);
                text = text.substring(1);
                call = named(calls, sign == '\n' ? "theatre" : "feed");
                given = sign == '\n' ? new Object[0] : new Object[] {(int) sign};
            }
            called.add(call);
            with.add(given);
            Object answer = answer(x, call, given);
            boolean asks = !TELLING.contains(" " + call.getName() + " ");
            if (i % 6 == 0 && i < LOOKED && (asks || isRefused(call.getName(), answer))) {
                latestChangedNothing(answer);
            }
        }
    }

    public static void main(String[] args) {
        Method[] calls = Arrays.stream(HairAtATime.class.getDeclaredMethods())
            .filter(m -> Modifier.isPublic(m.getModifiers()))
            .sorted(Comparator.comparing(Method::getName)).toArray(Method[]::new);
        for (int run = 0; run < RUNS; run++) {
            new AnyArgumentsTest().run(calls);
        }
        for (int run = 0; run < LONG_RUNS; run++) {
            longRun(calls);
        }
        CHECKS.end();
    }
}
