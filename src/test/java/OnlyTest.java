import java.util.Map;
import java.util.function.Supplier;
import java.util.function.ToLongFunction;

/**
 * Promises 2 to 36, what is changed: each call changes what its promise says, and nothing else. Of Edges.some() (its
 * NIGHT is 2, RAIN is 3), behind each call, all facts, with those that are otherwise worked out by hand.
 */
final class OnlyTest {
    private static final Checks CHECKS = new Checks("OnlyTest");
    private static final long NO = Long.MIN_VALUE, NONE = -1, NOT_ANY = -5, NONE_BELOW = -10001, NOTHING = -11, CAST = -12;

    /** Facts by name, each with what it is behind a call. */
    private static Object[] facts(Object... namesAndValues) {
        return namesAndValues;
    }

    private static Object[] and(Object[] some, Object... more) {
        Object[] all = new Object[some.length + more.length];
        System.arraycopy(some, 0, all, 0, some.length);
        System.arraycopy(more, 0, all, some.length, more.length);
        return all;
    }

    /** A call of an object made so answers that, and those facts, and no others, are otherwise then. */
    private static void only(String what, long want, Supplier<HairAtATime> made, ToLongFunction<HairAtATime> call,
            Object... facts) {
        Map<String, Long> due = Facts.of(made.get());
        for (int i = 0; i < facts.length; i += 2) {
            long value = ((Number) facts[i + 1]).longValue();
            Long was = due.put((String) facts[i], value);
            CHECKS.holds(what + ": " + facts[i] + " was otherwise", was != null && was != value);
        }
        HairAtATime x = made.get();
        CHECKS.due(what, want, call.applyAsLong(x));
        Map<String, Long> got = Facts.of(x);
        for (String name : due.keySet()) {
            CHECKS.due(what + ": " + name, due.get(name), got.get(name));
        }
    }

    private static void only(String what, long want, ToLongFunction<HairAtATime> call, Object... facts) {
        only(what, want, Edges::some, call, facts);
    }

    // ---- promises 2 to 11

    private static void heads() {
        Object[] came = facts("HEADS", 4, "KIND 3", 6, "v 3", 8, "HERS 3", 50, "DUE 3", 30, "SHELVED 3", 0);
        for (int c = 0; c < 8; c++) {
            came = and(came, "hair 3 " + c, NOT_ANY, "tight 3 " + c, 0);
        }
        for (int part = 0; part < 4; part++) {
            came = and(came, "ROW 3 " + part, 0);
        }
        only("promise 2: a HEAD", 3, x -> x.head(6, 8, 50), came);
        only("promise 5: HERS", 40, x -> x.set(0, 0, 99), "HERS 0", 99);
        only("promise 5: DUE", 7, x -> x.set(2, 1, 0), "DUE 2", 0);
        only("promise 8: SHELVED", 0, x -> x.shelve(2, true), "SHELVED 2", 1, "ENDS FALLEN", 1, "ENDS hairs", 4);
        // on the PLAN's NIGHT its hair, 1 TIGHT, falls out then
        only("promise 8: not SHELVED", 1, x -> x.shelve(1, false), "SHELVED 1", 0, "ENDS FALLEN", 3);
        only("promise 9: the ROW", 6, x -> x.row(2, 1, 0), "ROW 2 1", 0);
    }

    private static void drawers() {
        only("promise 6: by lamp", 33, x -> x.drawer(3, 0, 99), "lamp 3", 99);
        only("promise 6: by day", 44, x -> x.drawer(3, 1, 0), "day 3", 0);
        only("promise 6: STOCK", 10, x -> x.drawer(3, 2, 99), "STOCK 3", 99);
        only("promise 6: STOCK that is in the BOOK", 9, x -> x.drawer(2, 2, 8), "STOCK 2", 8, "LOOKED", 1);
        only("promise 7: a hair", 9, x -> x.knot(0, 1, 3, 4), "hair 0 1", 3, "tight 0 1", 4, "STOCK 3", 9, "ENDS hairs", 4);
        only("promise 7: a hair on a SHELVED one", 8, x -> x.knot(1, 7, 7, 1), "hair 1 7", 7, "tight 1 7", 1, "STOCK 7", 8);
    }

    /** THE TEXT is "wa" at first, and goes on "rm 7 p<9&c>3;rain 5" where the facts are told. */
    private static void theatres() {
        only("promise 10: a sign", 3, x -> x.feed('r'), "TEXT", 3, "theatre", -13, "its RAIN", 3);
        only("promise 11: a FAULT", -12, HairAtATime::theatre, "TEXT", 0, "theatre", -11, "its RAIN", 3);
        only("promise 11: a THEATRE", 1, () -> {
            HairAtATime x = Edges.some();
            Checks.feed(x, "rm 1 p<9;rain 2");
            return x;
        }, HairAtATime::theatre, "TEXT", 0, "THEATRES", 2, "RAIN", 2, "theatre", -11, "its RAIN", 2,
            // the PLAN's NIGHT is wet then: HEAD 2's are 2 and 1 TIGHT
            "ENDS FALLEN", 3, "ENDS hairs", 2);
    }

    // ---- promises 13 to 28

    private static void nights() {
        only("promise 13: a dry NIGHT", 3, x -> x.pass(1), "NIGHT", 3, "FALLEN", 2, "tight 0 0", 5, "tight 0 4", 6,
            "tight 2 0", 1, "tight 2 1", 0, "hair 2 1", NOT_ANY, "ENDS FALLEN", 3, "ENDS hairs", 2);
        // NIGHTS 2 and 3: 1 and 2 less
        only("promise 13: a dry one and a wet one", 4, x -> x.pass(2), "NIGHT", 4, "FALLEN", 3, "tight 0 0", 3, "tight 0 4", 4,
            "tight 2 0", 0, "tight 2 1", 0, "hair 2 0", NOT_ANY, "hair 2 1", NOT_ANY, "ENDS FALLEN", 3, "ENDS hairs", 2);
    }

    private static void rows() {
        only("promise 17: SEEN", 3, x -> x.see(2, 0, 9), "SEEN", 3);
        only("promise 17: none SEEN", 0, x -> x.see(-1, 0, 0), "SEEN", 0, "FALSE", NOT_ANY);
        only("promise 22: a row of the PLAN", 3, x -> x.plan(1, 0), "PLAN", 3, "ENDS hairs", 1);
        only("promise 22: no PLAN", 0, x -> x.plan(-1, 0), "PLAN", 0, "ENDS FALLEN", 1, "ENDS hairs", 5);
        only("promise 24: a row of the BOOK", 3, x -> x.book(0, 8), "BOOK", 3, "LOOKED", 2);
        only("promise 24: no BOOK", 0, x -> x.book(-1, 0), "BOOK", 0);
    }

    private static void images() {
        only("promise 27: THE IMAGE", 3, HairAtATime::image, "image NIGHT", 2, "image STOCK", 9, "image HERS", 12,
            "image hair", 2);
        // at NIGHT 1 HEAD 0 has one hair, 16 and 40 are 24 apart; HEAD 1, 55 and 10 by day, is not 4 OFF
        only("promise 28: as THE IMAGE", 3, HairAtATime::undo, "NIGHT", 1, "STOCK 2", 10, "HERS 1", 10, "hair 0 4", NOT_ANY,
            "tight 0 4", 0, "tight 0 0", 7, "tight 2 0", 3, "tight 2 1", 2, "FALSE", 1, "LOOKED", 1, "ENDS FALLEN", 1);
    }

    // ---- promises 29 to 36

    private static Object[] trace(int... bodies) {
        Object[] all = facts("bodies", bodies.length);
        for (int i = 0; i < 12; i++) {
            all = and(all, "trace " + i, i < bodies.length ? bodies[i] : NONE);
        }
        return all;
    }

    private static void acts() {
        only("promise 29: an ACT", 10, x -> x.act(1, 0, 9), trace(10));
        only("promise 29: another", 2 * ((8 - 9) ^ 6), x -> x.act(1, 2, 7), trace(12, 20, 11, 10));
        only("promise 29: no such HEAD", 0, x -> x.act(3, 0, 9), trace());
        only("promise 29: no such ACT", 0, x -> x.act(0, 3, 9), trace());
    }

    /** TAPE 0 is nine ints, 10 and eight 9; 1 bytes 0 0 77; 2 ints 0 0 0 -4; 3 booleans 1 0; 4 no longs; 5 nothing. */
    private static void tapes() {
        Object[] two = facts("alike 0 1", 0, "alike 0 2", CAST, "ints 0", CAST, "item 0 0", 0, "item 0 1", 0);
        Object[] nothing = facts("ints 1", 100, "alike 0 1", NOTHING);
        for (int i = 2; i < 9; i++) {
            two = and(two, "item 0 " + i, NO);
        }
        for (int other = 2; other < 5; other++) {
            nothing = and(nothing, "item 1 " + (other - 2), NO, "alike 1 " + other, NOTHING);
        }
        only("promise 33: two bytes", 1, x -> x.tape(0, 0, 2), two);
        only("promise 33: nothing", 1, x -> x.tape(1, -1, 0), nothing);
        only("promise 33: a long", 1, x -> x.tape(4, 3, 1), "item 4 0", 0);
        only("promise 34: an int", 1, x -> x.item(0, 8, -3), "item 0 8", -3);
        only("promise 34: a byte", 1, x -> x.item(1, 0, 255), "item 1 0", -1);
        only("promise 34: a boolean", 1, x -> x.item(3, 1, -2), "item 3 1", 1);
        only("promise 36: two ints", 2, x -> x.shift(0, 0, 2, 1, 2), "item 2 1", 10, "item 2 2", 9);
        only("promise 36: onto the same", 3, x -> x.shift(2, 1, 2, 0, 3), "item 2 2", -4);
    }

    /** "Promise 1: A new object": what is done to one is not done to another. */
    private static void twoObjects() {
        HairAtATime x = Edges.some();
        Map<String, Long> bare = Facts.of(new HairAtATime());
        HairAtATime y = new HairAtATime();
        HairAtATime z = Edges.full();
        x.pass(3);
        z.image();
        CHECKS.holds("promise 1: a new one beside others is as a first one", bare.equals(Facts.of(y)));
        CHECKS.due("promise 1: one that was made ahead of those", 5, x.told(0));
        CHECKS.due("promise 1: and its HEADS", 3, x.count(0));
        CHECKS.due("promise 1: one that was made behind those", 6, z.count(0));
    }

    public static void main(String[] args) {
        heads();
        drawers();
        theatres();
        nights();
        rows();
        images();
        acts();
        tapes();
        twoObjects();
        CHECKS.end();
    }
}
