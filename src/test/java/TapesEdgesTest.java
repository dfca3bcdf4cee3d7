import java.util.function.ToLongFunction;

/** Terms 3 and promises 33 to 36: each sentence that names an edge, with answers worked out by hand. */
final class TapesEdgesTest {
    private static final int MIN = Edges.MIN, MAX = Edges.MAX, NONE = Edges.NONE, BAD = Edges.BAD, NOTHING = Edges.NOTHING,
        CAST = Edges.CAST, PLACE = Edges.PLACE, SIZE = Edges.SIZE;
    private static final int BYTES = 0, SHORTS = 1, INTS = 2, LONGS = 3, BOOLEANS = 4;
    private static final long NO = Edges.NO;
    private static final Edges EDGES = new Edges("TapesEdgesTest");
    private static HairAtATime x;

    private static void due(String what, long want, long got) {
        EDGES.due(what, want, got);
    }

    private static void leaves(String what, long want, ToLongFunction<HairAtATime> call) {
        EDGES.leaves(what, want, Edges::some, call);
    }

    private static void changes(String what, long want, ToLongFunction<HairAtATime> call) {
        EDGES.changes(what, want, Edges::some, call);
    }

    /** "A TAPE becomes a row of n (0 .. 60) .., all 0, or holds nothing (sort -1: ..): 1. NONE: tape; BAD: ..; SIZE." */
    private static void promise33() {
        changes("promise 33: the first TAPE, the first sort", 1, x -> x.tape(0, BYTES, 60));
        changes("promise 33: the last TAPE, the last sort", 1, x -> x.tape(5, BOOLEANS, 60));
        changes("promise 33: a row of one", 1, x -> x.tape(5, INTS, 1));
        for (int no : new int[] {-1, 6, MIN, MAX}) {
            leaves("promise 33: tape " + no, NONE, x -> x.tape(no, 0, 1));
            leaves("promise 33: tape, though it would hold nothing, " + no, NONE, x -> x.tape(no, -1, 1));
            leaves("promise 33: tape ahead of sort, " + no, NONE, x -> x.tape(no, 5, 1));
            leaves("promise 33: tape ahead of n, " + no, NONE, x -> x.tape(no, 0, 61));
            leaves("promise 33: tape ahead of SIZE, " + no, NONE, x -> x.tape(no, 0, -1));
        }
        for (int sort : new int[] {-2, 5, MIN, MAX}) {
            leaves("promise 33: sort " + sort, BAD, x -> x.tape(0, sort, 1));
            leaves("promise 33: sort ahead of SIZE, " + sort, BAD, x -> x.tape(0, sort, -1));
        }
        for (int sort = BYTES; sort <= BOOLEANS; sort++) {
            int of = sort;
            for (int n : new int[] {61, 62, MAX}) {
                leaves("promise 33: n " + n + " of sort " + sort, BAD, x -> x.tape(0, of, n));
            }
            for (int n : new int[] {-1, -2, MIN}) {
                leaves("promise 33: n " + n + " of sort " + sort, SIZE, x -> x.tape(0, of, n));
            }
            rowOf(sort);
        }
        for (int n : new int[] {0, 1, 60, 61, MAX, -1, MIN}) {
            changes("promise 33: it holds nothing, n " + n, 1, x -> x.tape(0, -1, n));
            leaves("promise 33: it holds nothing already, n " + n, 1, x -> x.tape(5, -1, n));
            x = Edges.some();
            x.tape(0, -1, n);
            due("promise 33: it holds nothing", NO, x.read(0, 0));
            due("promise 33: nothing is there", NOTHING, x.item(0, 0, 1));
        }
    }

    /** What a TAPE is when it has become a row of this sort. */
    private static void rowOf(int sort) {
        x = new HairAtATime();
        for (int n : new int[] {60, 1, 0, 2}) {
            due("promise 33: a row of " + n, 1, x.tape(5, sort, n));
            for (int i = 0; i < n; i++) {
                due("promise 33: all 0", 0, x.read(5, i));
                due("promise 33: place " + i, 1, x.item(5, i, 1));
            }
            due("promise 33: no more than " + n, NO, x.read(5, n));
            due("promise 33: no more than " + n, PLACE, x.item(5, n, 1));
        }
        due("promise 33: of the same length anew", 1, x.tape(5, sort, 2));
        due("promise 33: all 0", 0, x.read(5, 0));
        due("promise 33: all 0", 0, x.read(5, 1));
    }

    private static void kept(int sort, long v, long kept) {
        x = new HairAtATime();
        x.tape(5, sort, 3);
        due("promise 34: an item of sort " + sort, 1, x.item(5, 1, v));
        due("promise 34: " + v + " as one of sort " + sort, kept, x.read(5, 1));
        due("promise 34: the one ahead of it", 0, x.read(5, 0));
        due("promise 34: the one behind it", 0, x.read(5, 2));
    }

    /** "Item i of a TAPE becomes v (its lowest bits, as many as an item has; booleans: whether v is not 0): 1." */
    private static void lowestBits() {
        int[] bits = {8, 16, 32};
        for (int sort = BYTES; sort <= INTS; sort++) {
            long half = 1L << (bits[sort] - 1);
            kept(sort, 0, 0);
            kept(sort, half - 1, half - 1);
            kept(sort, half, -half);
            kept(sort, half + 1, -half + 1);
            kept(sort, 2 * half - 1, -1);
            kept(sort, 2 * half, 0);
            kept(sort, 2 * half + 7, 7);
            kept(sort, -1, -1);
            kept(sort, -half, -half);
            kept(sort, -half - 1, half - 1);
            kept(sort, Long.MAX_VALUE, -1);
            kept(sort, Long.MIN_VALUE, 0);
        }
        for (long v : new long[] {0, 1, -1, 1L << 32, Long.MAX_VALUE, Long.MIN_VALUE + 1, Long.MIN_VALUE}) {
            kept(LONGS, v, v);
            kept(BOOLEANS, v, v == 0 ? 0 : 1);
        }
        kept(BOOLEANS, 2, 1);
        kept(BOOLEANS, 256, 1);
        x.item(5, 1, 0);
        due("promise 34: 0 again", 0, x.read(5, 1));
    }

    /** "NONE; NOTHING; PLACE." */
    private static void promise34() {
        lowestBits();
        changes("promise 34: the first place", 1, x -> x.item(0, 0, 3));
        changes("promise 34: the last place", 1, x -> x.item(0, 8, 3));
        leaves("promise 34: as it was", 1, x -> x.item(0, 8, 9));
        for (int no : new int[] {-1, 6, MIN, MAX}) {
            leaves("promise 34: tape " + no, NONE, x -> x.item(no, 0, 1));
            leaves("promise 34: tape ahead of place, " + no, NONE, x -> x.item(no, -1, 1));
        }
        for (int i : new int[] {0, -1, 60, MIN, MAX}) {
            leaves("promise 34: nothing, ahead of place " + i, NOTHING, x -> x.item(5, i, 1));
            leaves("promise 34: place " + i + " of none", PLACE, x -> x.item(4, i, 1));
        }
        for (int i : new int[] {-1, 9, 10, 60, MIN, MAX}) {
            leaves("promise 34: place " + i + " of nine", PLACE, x -> x.item(0, i, 1));
        }
        leaves("promise 34: place 2 of two", PLACE, x -> x.item(3, 2, 1));
    }

    /** "Item i of a TAPE. NO: no such TAPE, nothing there, no such place." */
    private static void promise35() {
        leaves("promise 35: the first", 10, x -> x.read(0, 0));
        leaves("promise 35: the last", 9, x -> x.read(0, 8));
        leaves("promise 35: below 0", -4, x -> x.read(2, 3));
        leaves("promise 35: a boolean", 1, x -> x.read(3, 0));
        leaves("promise 35: a boolean", 0, x -> x.read(3, 1));
        for (int no : new int[] {-1, 6, MIN, MAX}) {
            leaves("promise 35: tape " + no, NO, x -> x.read(no, 0));
        }
        for (int i : new int[] {0, -1, 60, MIN, MAX}) {
            leaves("promise 35: nothing there, " + i, NO, x -> x.read(5, i));
            leaves("promise 35: place " + i + " of none", NO, x -> x.read(4, i));
        }
        for (int i : new int[] {-1, 9, 60, MIN, MAX}) {
            leaves("promise 35: place " + i, NO, x -> x.read(0, i));
        }
    }

    /** TAPES 0 and 1 of a sort with 5 and 3 items, 1 1 0 1 0 and 0 0 0. */
    private static HairAtATime two(int sort) {
        HairAtATime y = new HairAtATime();
        y.tape(0, sort, 5);
        y.tape(1, sort, 3);
        y.item(0, 0, 1);
        y.item(0, 1, 1);
        y.item(0, 3, 1);
        return y;
    }

    private static void holds(String what, int tape, int... items) {
        for (int i = 0; i < items.length; i++) {
            due("promise 36: " + what + ", " + i, items[i], x.read(tape, i));
        }
        due("promise 36: " + what + ", no more", NO, x.read(tape, items.length));
    }

    /** "n items .. from i on come to another one (or the same) from j on, as they all were before: n." */
    private static void shifts() {
        for (int sort = BYTES; sort <= BOOLEANS; sort++) {
            x = two(sort);
            due("promise 36: all of the other", 3, x.shift(0, 1, 1, 0, 3));
            holds("all of the other", 1, 1, 0, 1);
            holds("they stay", 0, 1, 1, 0, 1, 0);
            x = two(sort);
            due("promise 36: the last one to the last place", 1, x.shift(0, 3, 1, 2, 1));
            holds("the last place", 1, 0, 0, 1);
            x = two(sort);
            due("promise 36: one behind", 4, x.shift(0, 0, 0, 1, 4));
            holds("one behind, as they were", 0, 1, 1, 1, 0, 1);
            x = two(sort);
            due("promise 36: one ahead", 4, x.shift(0, 1, 0, 0, 4));
            holds("one ahead, as they were", 0, 1, 0, 1, 0, 0);
            EDGES.leaves("promise 36: all onto themselves", 5, () -> two(BYTES), x -> x.shift(0, 0, 0, 0, 5));
        }
        for (int i = 0; i <= 9; i++) {
            int at = i;
            leaves("promise 36: none from place " + i, 0, x -> x.shift(0, at, 0, 9 - at, 0));
        }
        leaves("promise 36: none of none", 0, x -> x.shift(4, 0, 4, 0, 0));
    }

    /** "NONE: tapes; NOTHING; CAST: of unlike sorts; PLACE: n, i or j is below 0, or beyond either's end." */
    private static void promise36() {
        shifts();
        changes("promise 36: ints to ints", 4, x -> x.shift(0, 0, 2, 0, 4));
        for (int no : new int[] {-1, 6, MIN, MAX}) {
            leaves("promise 36: tape " + no, NONE, x -> x.shift(no, 0, 0, 0, 1));
            leaves("promise 36: other " + no, NONE, x -> x.shift(0, 0, no, 0, 1));
            leaves("promise 36: tape ahead of NOTHING, " + no, NONE, x -> x.shift(no, 0, 5, 0, 1));
            leaves("promise 36: other ahead of NOTHING, " + no, NONE, x -> x.shift(5, 0, no, 0, 1));
            leaves("promise 36: tape ahead of PLACE, " + no, NONE, x -> x.shift(no, -1, 0, 0, 1));
        }
        leaves("promise 36: nothing is there", NOTHING, x -> x.shift(5, 0, 0, 0, 1));
        leaves("promise 36: nothing is there", NOTHING, x -> x.shift(0, 0, 5, 0, 1));
        leaves("promise 36: nothing is there", NOTHING, x -> x.shift(5, 0, 5, 0, 0));
        leaves("promise 36: NOTHING ahead of PLACE", NOTHING, x -> x.shift(5, -1, 0, 0, 1));
        leaves("promise 36: of unlike sorts", CAST, x -> x.shift(0, 0, 1, 0, 1));
        leaves("promise 36: of unlike sorts, none", CAST, x -> x.shift(1, 0, 4, 0, 0));
        leaves("promise 36: of unlike sorts, ahead of PLACE", CAST, x -> x.shift(0, -1, 1, 0, 1));
        leaves("promise 36: of unlike sorts, ahead of n", CAST, x -> x.shift(3, 0, 1, 0, -1));
        // nine ints, and four
        int[][] places = {{0, 0, -1}, {0, 0, 5}, {-1, 0, 1}, {0, -1, 1}, {9, 0, 1}, {8, 0, 2}, {0, 4, 1}, {0, 3, 2},
            {10, 0, 0}, {0, 5, 0}, {-1, 0, 0}, {0, -1, 0}, {5, 0, 5}, {-1, -1, -1}, {0, 0, MAX}, {0, 0, MIN},
            {MAX, 0, 1}, {0, MAX, 1}, {MIN, 0, 1}, {0, MIN, 1}, {MAX, MAX, MAX}, {MIN, MIN, MIN}, {1, 1, MAX},
            {MAX, 0, 0}, {0, MAX, 0}, {MAX - 1, 0, 2}, {0, MAX - 1, 2}, {MIN, MIN, MAX}};
        for (int[] at : places) {
            leaves("promise 36: from " + at[0] + " to " + at[1] + ", " + at[2], PLACE,
                x -> x.shift(0, at[0], 2, at[1], at[2]));
        }
        leaves("promise 36: one of none", PLACE, x -> x.shift(4, 0, 4, 0, 1));
        leaves("promise 36: the same, beyond its end", PLACE, x -> x.shift(0, 0, 0, 1, 9));
        leaves("promise 36: the same, beyond its end", PLACE, x -> x.shift(0, 1, 0, 0, 9));
        leaves("promise 36: from the last but three on", 4, x -> x.shift(0, 5, 0, 1, 4));
    }

    /** "TAPES 0 .. 5 hold nothing (at first), or a row of 0 bytes, 1 shorts, 2 ints, 3 longs, 4 booleans (items 0, 1)." */
    private static void term3() {
        x = new HairAtATime();
        for (int tape = 0; tape < 6; tape++) {
            due("term 3: nothing at first", NOTHING, x.item(tape, 0, 1));
            due("term 3: nothing at first", NOTHING, x.shift(tape, 0, tape, 0, 0));
            due("term 3: nothing at first", 100, x.judge(tape, 0));
            due("term 3: a row", 1, x.tape(tape, tape % 5, 1));
        }
        due("term 3: NOTHING", -11, x.taken(0, 0));
        x.head(0, 0, 0);
        due("term 3: CAST, another KIND", -12, x.taken(0, 1));
        due("term 3: CAST, another sort", -12, x.shift(0, 0, 1, 0, 1));
        due("term 3: PLACE", -13, x.item(0, 1, 1));
        due("term 3: SIZE", -14, x.tape(0, 0, -1));
    }

    public static void main(String[] args) {
        promise33();
        promise34();
        promise35();
        promise36();
        term3();
        EDGES.covers("term", 3, 3);
        EDGES.covers("promise", 33, 36);
        EDGES.end();
    }
}
