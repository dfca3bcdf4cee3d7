import java.util.Arrays;
import java.util.Set;
import java.util.TreeSet;
import java.util.function.Supplier;
import java.util.function.ToLongFunction;

/**
 * What the tests of edges have in common: answers that are due, and calls behind which all is as it was. What is
 * looked at begins with the name of what it holds, "promise 7: .." or "term 2: ..".
 */
final class Edges {
    static final int MIN = Integer.MIN_VALUE, MAX = Integer.MAX_VALUE;
    static final long NO = Long.MIN_VALUE;
    static final int NONE = -1, BAD = -2, STATE = -3, FULL = -4, NOT_ANY = -5, NONE_BELOW = -10001;
    static final int NOTHING = -11, CAST = -12, PLACE = -13, SIZE = -14;

    private interface Look {
        long[] at(HairAtATime x);
    }

    /** All that can be told of an object, each look with less calls than an object takes. */
    private static final Look[] LOOKS = {Edges::heads, Edges::shades, Edges::rest, x -> tapes(x, 0), x -> tapes(x, 2),
        x -> tapes(x, 4), Edges::text, Edges::image};

    private final Checks checks;
    private final Set<String> held = new TreeSet<>();

    Edges(String test) {
        checks = new Checks(test);
    }

    void due(String what, long want, long got) {
        held.add(what.substring(0, what.indexOf(':')));
        checks.due(what, want, got);
    }

    /** A call that answers so, and leaves all as it was: on objects that are made anew each time. */
    void leaves(String what, long want, Supplier<HairAtATime> made, ToLongFunction<HairAtATime> call) {
        due(what, want, call.applyAsLong(made.get()));
        for (int i = 0; i < LOOKS.length; i++) {
            checks.holds(what + " leaves all as it was, look " + i, isAlike(LOOKS[i], made, call));
        }
    }

    /** A call that answers so, and is seen: or else leaves() would look at too little. */
    void changes(String what, long want, Supplier<HairAtATime> made, ToLongFunction<HairAtATime> call) {
        due(what, want, call.applyAsLong(made.get()));
        checks.holds(what + " is seen", Arrays.stream(LOOKS).anyMatch(look -> !isAlike(look, made, call)));
    }

    /** How many looks there are. */
    static int looks() {
        return LOOKS.length;
    }

    static long[] look(int i, HairAtATime x) {
        return LOOKS[i].at(x);
    }

    private static boolean isAlike(Look look, Supplier<HairAtATime> made, ToLongFunction<HairAtATime> call) {
        HairAtATime called = made.get();
        call.applyAsLong(called);
        return Arrays.equals(look.at(made.get()), look.at(called));
    }

    /** Each of these promises or terms has been looked at. */
    void covers(String of, int first, int last) {
        for (int n = first; n <= last; n++) {
            checks.holds(of + " " + n + " is looked at", held.contains(of + " " + n));
        }
    }

    void end() {
        checks.end();
    }

    private static long[] heads(HairAtATime x) {
        long[] all = new long[6 * 28];
        for (int i = 0; i < all.length; i++) {
            all[i] = x.of(i / 28, i % 28);
        }
        return all;
    }

    private static long[] shades(HairAtATime x) {
        long[] all = new long[6 * 16];
        for (int i = 0; i < all.length; i++) {
            all[i] = x.shade(i / 16, i % 8, i / 8 % 2);
        }
        return all;
    }

    private static long[] rest(HairAtATime x) {
        long[] all = new long[128];
        for (int i = 0; i < 40; i++) {
            all[i] = x.told(i);
        }
        for (int i = 0; i < 7; i++) {
            all[40 + i] = x.count(i);
        }
        for (int i = 0; i < 20; i++) {
            all[50 + i] = x.trace(i);
        }
        for (int p = 0; p < 6; p++) {
            all[70 + 4 * p] = x.can(p, 0, 0);
            all[71 + 4 * p] = x.can(p, 0, 1);
            all[72 + 4 * p] = x.can(p, 1, 0);
            all[73 + 4 * p] = x.can(p, 1, 1);
        }
        for (int what = 0; what < 2; what++) {
            all[100 + what] = x.ends(what);
            all[102 + what] = x.mean(0, what);
            all[104 + what] = x.mean(1, what);
        }
        all[106] = x.wrong();
        all[107] = x.looked();
        for (int pace = 1; pace < 10; pace++) {
            all[110 + pace] = x.inTime(pace);
        }
        return all;
    }

    private static long[] tapes(HairAtATime x, int first) {
        long[] all = new long[122];
        for (int tape = 0; tape < 2; tape++) {
            for (int i = 0; i < 60; i++) {
                all[tape * 60 + i] = x.read(first + tape, i);
            }
            all[120 + tape] = x.judge(first + tape, 0);
        }
        return all;
    }

    /** THE TEXT as it goes on. */
    private static long[] text(HairAtATime x) {
        Checks.feed(x, "rm 7 p<9&c>3;rain 5");
        return new long[] {x.count(5), x.theatre(), x.count(5), x.count(1), x.told(1), x.shade(0, 5, 0),
            x.shade(1, 5, 1)};
    }

    /** How all is behind an undo. */
    private static long[] image(HairAtATime x) {
        int undone = x.undo();
        long[] heads = heads(x);
        long[] all = Arrays.copyOf(heads, heads.length + 129);
        System.arraycopy(rest(x), 0, all, heads.length, 128);
        all[heads.length + 128] = undone;
        return all;
    }

    // ---- objects

    /** An object with HEADS of these KINDS, v 5, HERS 40. */
    static HairAtATime heads(int... kinds) {
        HairAtATime x = new HairAtATime();
        for (int kind : kinds) {
            x.head(kind, 5, 40);
        }
        return x;
    }

    /** Three HEADS (a HEAD, a FRONT, a TOLD one), a little of all, an IMAGE that is otherwise. */
    static HairAtATime some() {
        HairAtATime x = new HairAtATime();
        x.head(0, 5, 40);
        x.head(1, 9, 10);
        x.head(6, 3, 70);
        x.knot(0, 0, 1, 9);
        x.knot(0, 7, 6, 2);
        x.knot(1, 3, 4, 1);
        x.knot(2, 0, 7, 5);
        x.knot(2, 1, 0, 4);
        x.drawer(5, 2, 0);
        x.drawer(3, 0, 33);
        x.drawer(3, 1, 44);
        x.shelve(1, true);
        x.set(2, 1, 7);
        x.row(2, 1, 6);
        x.row(2, 3, 9);
        Checks.theatre(x, "warm 6 c<5;rain 3");
        x.pass(1);
        x.see(0, 0, 24);
        x.see(1, 1, 4);
        x.plan(0, 0);
        x.plan(1, 1);
        x.book(5, 0);
        x.book(2, 9);
        x.image();
        x.knot(0, 4, 2, 8);
        x.set(1, 0, 12);
        x.pass(1);
        Checks.feed(x, "wa");
        someTapes(x);
        x.act(2, 2, 5);
        return x;
    }

    /** TAPE 0 tells STOCK for two DRAWERS, 1 bytes, 2 ints, 3 booleans, 4 longs, none of them, 5 nothing. */
    private static void someTapes(HairAtATime x) {
        x.tape(0, 2, 9);
        for (int i = 0; i < 9; i++) {
            x.item(0, i, i < 1 ? 10 : 9);
        }
        x.tape(1, 0, 3);
        x.item(1, 2, 77);
        x.tape(2, 2, 4);
        x.item(2, 3, -4);
        x.tape(3, 4, 2);
        x.item(3, 0, 8);
        x.tape(4, 3, 0);
    }

    /** All that has a bound on how many there are is full: THE TEXT aside. */
    static HairAtATime full() {
        HairAtATime x = heads(0, 1, 2, 3, 4, 6);
        for (int i = 0; i < 6; i++) {
            Checks.theatre(x, "rain " + i);
        }
        for (int i = 0; i < 5; i++) {
            x.see(i, 0, i);
        }
        for (int i = 0; i < 10; i++) {
            x.plan(i % 4, i % 6);
        }
        for (int i = 0; i < 8; i++) {
            x.book(i, 10);
        }
        x.knot(0, 0, 3, 9);
        x.drawer(3, 2, 0);
        return x;
    }

    /** The last place of THE TEXT is taken. */
    static HairAtATime fullText() {
        HairAtATime x = heads(0, 6);
        Checks.feed(x, FULL_TEXT);
        return x;
    }

    /** A right text of 100 bytes: 8, 22 times 4, and 4. */
    static final String FULL_TEXT = "warm 11 " + "p=9|".repeat(22) + "p=00";

    /** NIGHT is so many less than 9999. */
    static HairAtATime late(int missing) {
        HairAtATime x = heads(0, 3);
        x.knot(0, 0, 1, 9);
        x.shelve(0, true);
        for (int left = 9999 - missing; left > 0; left -= 60) {
            x.pass(Math.min(60, left));
        }
        return x;
    }
}
