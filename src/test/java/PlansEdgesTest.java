import java.util.function.ToLongFunction;

/** Promises 22 to 32: each sentence that names an edge, with answers worked out by hand. */
final class PlansEdgesTest {
    private static final int MIN = Edges.MIN, MAX = Edges.MAX, NONE = Edges.NONE, BAD = Edges.BAD, STATE = Edges.STATE,
        FULL = Edges.FULL, NOT_ANY = Edges.NOT_ANY, NONE_BELOW = Edges.NONE_BELOW, CAST = Edges.CAST;
    private static final Edges EDGES = new Edges("PlansEdgesTest");
    private static HairAtATime x;

    private static void due(String what, long want, long got) {
        EDGES.due(what, want, got);
    }

    private static void leaves(String what, long want, ToLongFunction<HairAtATime> call) {
        EDGES.leaves(what, want, Edges::some, call);
    }

    private static void changes(String what, long want, ToLongFunction<HairAtATime> call) {
        EDGES.changes(what, want, Edges::some, call);
    }

    /** "A row comes to the PLAN: how many (what -1: .. empty then, 0, ..). NONE: what (0 .. 3), head (but by 0); FULL: 10." */
    private static void promise22() {
        for (int what = 0; what < 4; what++) {
            int row = what;
            changes("promise 22: the first HEAD, what " + what, 3, x -> x.plan(row, 0));
            changes("promise 22: the last HEAD, what " + what, 3, x -> x.plan(row, 2));
            for (int no : new int[] {-1, 3, 6, MIN, MAX}) {
                if (what == 0) {
                    changes("promise 22: a NIGHT, whatever the head is, " + no, 3, x -> x.plan(0, no));
                } else {
                    leaves("promise 22: head " + no + " by " + what, NONE, x -> x.plan(row, no));
                }
            }
            EDGES.leaves("promise 22: an eleventh, what " + what, FULL, Edges::full, x -> x.plan(row, 5));
        }
        changes("promise 22: it is empty then", 0, x -> x.plan(-1, 0));
        changes("promise 22: it is empty then, whatever the other is", 0, x -> x.plan(-1, MIN));
        EDGES.changes("promise 22: it is empty then, though FULL", 0, Edges::full, x -> x.plan(-1, 6));
        for (int no : new int[] {-2, 4, MIN, MAX}) {
            leaves("promise 22: what " + no, NONE, x -> x.plan(no, 0));
            EDGES.leaves("promise 22: what ahead of FULL, " + no, NONE, Edges::full, x -> x.plan(no, 0));
        }
        EDGES.leaves("promise 22: an eleventh NIGHT, whatever the head is", FULL, Edges::full, x -> x.plan(0, -9));
        EDGES.leaves("promise 22: head ahead of FULL", NONE, Edges::full, x -> x.plan(1, 6));
        x = new HairAtATime();
        for (int again = 0; again < 2; again++) {
            for (int i = 1; i <= 10; i++) {
                due("promise 22: how many there are", i, x.plan(0, 0));
            }
            due("promise 22: an eleventh", FULL, x.plan(0, 0));
            due("promise 22: it is empty then", 0, x.plan(-1, 0));
        }
        due("promise 22: no HEADS, no such row", NONE, x.plan(1, 0));
    }

    private static void ends(String what, int fallen, int hairs) {
        due("promise 23: " + what + ", FALLEN", fallen, x.ends(0));
        due("promise 23: " + what + ", hairs", hairs, x.ends(1));
    }

    /** "what goes (0 a NIGHT, 1 a HEAD has no hair, 2 it is SHELVED, 3 it is not; ..): ENDS: FALLEN; how many hairs" */
    private static void promise23() {
        x = Edges.heads(0, 0);
        x.knot(0, 0, 1, 9);
        x.knot(1, 7, 2, 1);
        ends("an empty PLAN", 0, 2);
        x.plan(1, 0);
        ends("HEAD 0 has no hair, which has not FALLEN", 0, 1);
        x.plan(1, 0);
        ends("again", 0, 1);
        x.plan(1, 1);
        ends("none has any", 0, 0);
        x.plan(-1, 0);
        for (int i = 1; i <= 10; i++) {
            x.plan(0, 0);
            ends(i + " NIGHTS of 9 TIGHT and of 1", i < 9 ? 1 : 2, i < 9 ? 1 : 0);
        }
        x.plan(-1, 0);
        x.plan(2, 1);
        x.plan(0, 0);
        ends("it is SHELVED", 0, 2);
        x.plan(3, 1);
        ends("it is not, and no NIGHT behind that", 0, 2);
        x.plan(0, 0);
        ends("it is not", 1, 1);
        x.plan(-1, 0);
        x.shelve(1, true);
        x.plan(0, 0);
        ends("it is SHELVED already", 0, 2);
        x.plan(3, 1);
        x.plan(3, 0);
        x.plan(0, 0);
        ends("it is not any more, and the other was not", 1, 1);
        x.plan(-1, 0);
        x.plan(1, 1);
        ends("one that is SHELVED has no hair", 0, 1);
        x.plan(3, 1);
        x.plan(0, 0);
        ends("none of that falls out", 0, 1);
        due("promise 23: nothing has gone", 2, x.told(3));
        due("promise 23: it is SHELVED still", 1, x.of(1, 4));
        for (int no : new int[] {-1, 2, MIN, MAX}) {
            leaves("promise 23: what " + no, NONE, x -> x.ends(no));
        }
        // a NIGHT, by which HEAD 2's last but one falls out; HEAD 1 has no hair
        leaves("promise 23: FALLEN", 2, x -> x.ends(0));
        leaves("promise 23: hairs", 3, x -> x.ends(1));
        x = Edges.heads(0);
        Checks.theatre(x, "rain 2");
        x.knot(0, 0, 0, 4);
        for (int i = 0; i < 3; i++) {
            x.plan(0, 0);
            ends("RAIN 2 of 4 TIGHT, NIGHTS " + (i + 1), i < 2 ? 0 : 1, i < 2 ? 1 : 0);
        }
    }

    /** "A row comes to the BOOK: how many (drawer -1: it is empty then, 0, ..). NONE; BAD: stock; FULL: 8." */
    private static void promise24() {
        changes("promise 24: the first DRAWER, STOCK 99", 3, x -> x.book(0, 99));
        changes("promise 24: the last DRAWER, STOCK 0", 3, x -> x.book(7, 0));
        changes("promise 24: it is empty then", 0, x -> x.book(-1, 0));
        changes("promise 24: it is empty then, whatever the other is", 0, x -> x.book(-1, 100));
        EDGES.changes("promise 24: it is empty then, though FULL", 0, Edges::full, x -> x.book(-1, MIN));
        for (int no : new int[] {-2, 8, MIN, MAX}) {
            leaves("promise 24: drawer " + no, NONE, x -> x.book(no, 0));
            leaves("promise 24: drawer ahead of stock, " + no, NONE, x -> x.book(no, 100));
            EDGES.leaves("promise 24: drawer ahead of FULL, " + no, NONE, Edges::full, x -> x.book(no, 0));
        }
        for (int stock : new int[] {-1, 100, MIN, MAX}) {
            leaves("promise 24: stock " + stock, BAD, x -> x.book(0, stock));
            EDGES.leaves("promise 24: stock ahead of FULL, " + stock, BAD, Edges::full, x -> x.book(0, stock));
        }
        EDGES.leaves("promise 24: a ninth", FULL, Edges::full, x -> x.book(0, 0));
        x = new HairAtATime();
        for (int again = 0; again < 2; again++) {
            for (int i = 1; i <= 8; i++) {
                due("promise 24: how many there are", i, x.book(0, 0));
            }
            due("promise 24: a ninth", FULL, x.book(0, 0));
            due("promise 24: it is empty then", 0, x.book(-1, 0));
        }
    }

    /** "LOOKED at: the number of the first of these rows by which it is otherwise now (-5: none)." */
    private static void promise25() {
        x = Edges.heads(0);
        due("promise 25: no rows", NOT_ANY, x.looked());
        for (int d = 0; d < 7; d++) {
            x.book(d, 10);
        }
        due("promise 25: none is otherwise", NOT_ANY, x.looked());
        x.book(7, 9);
        due("promise 25: the last row", 7, x.looked());
        x.knot(0, 0, 7, 1);
        due("promise 25: none is otherwise now", NOT_ANY, x.looked());
        x.drawer(3, 2, 11);
        due("promise 25: a row between", 3, x.looked());
        x.drawer(0, 2, 0);
        due("promise 25: the first of two", 0, x.looked());
        x.book(-1, 0);
        due("promise 25: no rows any more", NOT_ANY, x.looked());
        x.drawer(7, 2, 99);
        x.book(7, 99);
        x.book(0, 0);
        due("promise 25: STOCK 99, and 0", NOT_ANY, x.looked());
        x.book(0, 1);
        due("promise 25: the same DRAWER, otherwise", 2, x.looked());
        leaves("promise 25: none", NOT_ANY, HairAtATime::looked);
    }

    /** "JUDGED: the first that is otherwise; -5: none; 100 and how many were looked at, if the row ends ahead of that (..)" */
    private static void promise26() {
        // STOCK of Edges.some: 9 9 9 10 9 0 9 9; the row: 10 and eight 9
        int[][] judged = {{0, 0}, {1, 3}, {2, 3}, {5, 3}, {6, 103}, {7, 102}, {8, 101}, {9, 100}, {10, 100},
            {60, 100}, {MAX, 100}, {-1, 100}, {-8, 100}, {MIN, 100}};
        for (int[] one : judged) {
            leaves("promise 26: from place " + one[0], one[1], x -> x.judge(0, one[0]));
        }
        for (int no : new int[] {-1, 6, MIN, MAX}) {
            leaves("promise 26: tape " + no, NONE, x -> x.judge(no, 0));
            leaves("promise 26: tape ahead of a place below 0, " + no, NONE, x -> x.judge(no, -1));
        }
        for (int i : new int[] {0, 1, -1, MIN, MAX}) {
            leaves("promise 26: the TAPE holds nothing, place " + i, 100, x -> x.judge(5, i));
            leaves("promise 26: a row of bytes, place " + i, CAST, x -> x.judge(1, i));
            leaves("promise 26: a row of booleans, place " + i, CAST, x -> x.judge(3, i));
            leaves("promise 26: a row of no longs, place " + i, CAST, x -> x.judge(4, i));
        }
        x = new HairAtATime();
        x.tape(0, 1, 8);
        due("promise 26: a row of shorts", CAST, x.judge(0, 0));
        x.tape(0, 2, 0);
        due("promise 26: a row of no ints", 100, x.judge(0, 0));
        for (int n : new int[] {7, 8, 9, 60}) {
            x.tape(1, 2, n);
            for (int i = n < 8 ? 0 : n - 8; i < n; i++) {
                x.item(1, i, 10);
            }
            int from = Math.max(0, n - 8);
            due("promise 26: the last 8 of " + n, n < 8 ? 107 : NOT_ANY, x.judge(1, from));
            due("promise 26: the last 7 of " + n, n < 8 ? 106 : 107, x.judge(1, from + 1));
        }
        x.item(1, 59, 11);
        due("promise 26: the last one is otherwise", 7, x.judge(1, 52));
        x.item(1, 59, (1L << 32) + 10);
        due("promise 26: an int has 32 bits", NOT_ANY, x.judge(1, 52));
        x.item(1, 52, -10);
        due("promise 26: the first one is otherwise", 0, x.judge(1, 52));
        x.tape(2, 2, 9);
        for (int i = 0; i < 8; i++) {
            x.item(2, i, 10);
        }
        due("promise 26: what is behind the eighth is not looked at", NOT_ANY, x.judge(2, 0));
    }

    private static HairAtATime imaged() {
        HairAtATime y = Edges.some();
        y.image();
        return y;
    }

    /** What is done behind an image is undone. */
    private static void undone(String what, ToLongFunction<HairAtATime> done) {
        due("promise 28: " + what + " goes", 1, done.applyAsLong(imaged()) >= 0 ? 1 : 0);
        EDGES.leaves("promise 28: " + what + " is undone", 3, PlansEdgesTest::imaged, x -> {
            done.applyAsLong(x);
            return x.undo();
        });
        EDGES.leaves("promise 28: " + what + " is undone again", 3, PlansEdgesTest::imaged, x -> {
            x.undo();
            done.applyAsLong(x);
            return x.undo();
        });
    }

    /** "THE IMAGE is taken: how many HEADS there are." */
    private static void promise27() {
        changes("promise 27: how many HEADS", 3, HairAtATime::image);
        EDGES.changes("promise 27: six", 6, Edges::full, HairAtATime::image);
        EDGES.changes("promise 27: none", 0, HairAtATime::new, HairAtATime::image);
        EDGES.leaves("promise 27: it is as it was, taken again", 3, PlansEdgesTest::imaged, HairAtATime::image);
        x = Edges.heads(0);
        due("promise 27: one", 1, x.image());
        x.head(0, 0, 0);
        due("promise 27: two", 2, x.image());
        x.head(0, 0, 0);
        due("promise 27: the latest one is THE IMAGE", 2, x.undo());
        due("promise 27: and stays it", 2, x.undo());
    }

    /** "All is as THE IMAGE: how many HEADS. STATE: there is none." */
    private static void promise28() {
        EDGES.leaves("promise 28: there is none", STATE, HairAtATime::new, HairAtATime::undo);
        EDGES.leaves("promise 28: there is none", STATE, Edges::full, HairAtATime::undo);
        EDGES.leaves("promise 28: nothing was done", 3, PlansEdgesTest::imaged, HairAtATime::undo);
        undone("a HEAD", x -> x.head(6, 9, 99));
        undone("HERS", x -> x.set(0, 0, 99));
        undone("DUE", x -> x.set(0, 1, 1));
        undone("a shade by lamp", x -> x.drawer(7, 0, 99));
        undone("a shade by day", x -> x.drawer(0, 1, 99));
        undone("STOCK", x -> x.drawer(4, 2, 99));
        undone("a hair", x -> x.knot(0, 7, 7, 9));
        undone("SHELVED", x -> x.shelve(0, true));
        undone("not SHELVED", x -> x.shelve(1, false));
        undone("the ROW", x -> x.row(2, 0, 9));
        undone("a NIGHT", x -> x.pass(1));
        undone("60 NIGHTS", x -> x.pass(60));
        undone("SEEN", x -> x.see(2, 1, 9));
        undone("no SEEN", x -> x.see(-1, 0, 0));
        undone("other SEEN", x -> x.see(-1, 0, 0) + x.see(2, 0, 2) + x.see(1, 0, 1));
        undone("a row of the PLAN", x -> x.plan(0, 0));
        undone("no PLAN", x -> x.plan(-1, 0));
        undone("another PLAN", x -> x.plan(-1, 0) + x.plan(2, 2) + x.plan(1, 0));
        undone("a row of the BOOK", x -> x.book(0, 0));
        undone("no BOOK", x -> x.book(-1, 0));
        undone("another BOOK", x -> x.book(-1, 0) + x.book(2, 0) + x.book(5, 1));
        notInIt();
        whichHolds();
        undoneToNone();
    }

    /** THE TEXT, TAPES and THE TRACE are none of THE IMAGE's. */
    private static void notInIt() {
        x = imaged();
        x.feed('r');
        x.tape(5, 2, 1);
        x.item(2, 0, 55);
        x.act(0, 0, 1);
        due("promise 28: how many HEADS", 3, x.undo());
        due("promise 28: THE TEXT stays", 3, x.count(5));
        due("promise 28: a TAPE stays", 0, x.read(5, 0));
        due("promise 28: an item stays", 55, x.read(2, 0));
        due("promise 28: THE TRACE stays", 1, x.count(6));
        due("promise 28: THE TRACE stays", 10, x.trace(0));
    }

    /** "THE IMAGE: .., which THEATRE holds." */
    private static void whichHolds() {
        x = Edges.heads(0);
        x.image();
        Checks.theatre(x, "warm 9 p<9;rain 5");
        x.undo();
        due("promise 28: none held: RAIN", 0, x.told(1));
        due("promise 28: none held: SUM", 10, x.shade(0, 1, 0));
        due("promise 28: it is there still", 1, x.count(1));
        due("promise 28: the next one", 1, Checks.theatre(x, "warm 4 p<9;rain 3"));
        x.image();
        due("promise 28: the one behind that", 2, Checks.theatre(x, "warm 1 p<9;rain 2"));
        due("promise 28: holds", 2, x.told(1));
        x.undo();
        due("promise 28: the one that held: RAIN", 3, x.told(1));
        due("promise 28: the one that held: SUM", 14, x.shade(0, 1, 0));
        due("promise 28: there are three", 3, x.count(1));
        x.knot(0, 0, 0, 9);
        x.pass(2);
        due("promise 28: the one that held: NIGHT 0 is wet, 1 is dry", 6, x.of(0, 20));
        x.pass(1);
        due("promise 28: the one that held: NIGHT 2 is dry", 5, x.of(0, 20));
        x.knot(0, 1, 0, 2);
        due("promise 28: the one that held: ON NIGHT 3, which is wet", 1, x.on(1, 10));
        due("promise 28: the one that held: BALD, 5 3 2 1 and out", 4, x.of(0, 8));
        x.plan(0, 0);
        due("promise 28: the one that held: ENDS", 1, x.ends(0));
        x.undo();
        for (int i = 3; i < 6; i++) {
            due("promise 28: more", i, Checks.theatre(x, "rain 9"));
            x.undo();
        }
        due("promise 28: no seventh", FULL, Checks.theatre(x, "rain 9"));
        due("promise 28: the one that held", 3, x.told(1));
    }

    /** A HEAD that an undo took away is gone, with all that was its own. */
    private static void undoneToNone() {
        x = new HairAtATime();
        due("promise 28: no HEADS", 0, x.image());
        x.head(6, 9, 99);
        x.row(0, 0, 9);
        x.set(0, 1, 3);
        x.shelve(0, true);
        x.knot(0, 0, 0, 9);
        due("promise 28: no HEADS", 0, x.undo());
        due("promise 28: it is gone", NONE_BELOW, x.of(0, 0));
        due("promise 28: no hairs", 0, x.told(3));
        due("promise 28: STOCK", 10, x.told(10));
        due("promise 28: anew", 0, x.head(6, 1, 2));
        int[] answers = {6, 1, 2, 30, 0, 0, 0, 0, 0, 0, NOT_ANY};
        for (int what = 0; what < answers.length; what++) {
            due("promise 28: anew, what " + what, answers[what], x.of(0, what));
        }
        due("promise 28: anew, its ROW", 0, x.row(0, 0, 0));
    }

    private static void act(String what, int head, int act, int with, long want, int... trace) {
        due("promise 29: " + what, (int) want, x.act(head, act, with));
        due("promise 30: how many by " + what, trace.length, x.count(6));
        for (int i = 0; i < trace.length; i++) {
            due("promise 30: " + i + " by " + what, trace[i], x.trace(i));
        }
        for (int i : new int[] {-1, trace.length, 19, 20, 21, MIN, MAX}) {
            due("promise 30: none, " + i + " by " + what, NONE, x.trace(i));
        }
    }

    /** "curls(..) and so on: the body of its KIND, or, if that has none, of the next KIND above that has one" */
    private static void bodies() {
        x = new HairAtATime();
        for (int kind = 0; kind < 6; kind++) {
            x.head(kind, kind + 1, 0);
        }
        act("HEAD curls", 0, 0, 7, 7, 10);
        act("HEAD nods", 0, 1, 7, 7 - 1, 11, 10);
        act("HEAD tells", 0, 2, 7, 6 * 2, 12, 11, 10);
        act("FRONT curls", 1, 0, 7, 8, 10);
        act("FRONT nods", 1, 1, 7, 8 - 2 ^ 6, 20, 11, 10);
        act("FRONT tells", 1, 2, 8, (9 - 2 ^ 6) * 2, 12, 20, 11, 10);
        act("BACK curls", 2, 0, 7, 21 + 2, 30, 10);
        act("BACK nods", 2, 1, 7, 23 - 3, 11, 30, 10);
        act("BACK tells", 2, 2, 7, 20 * 2, 12, 11, 30, 10);
        act("OLD curls", 3, 0, 7, 10, 10);
        act("OLD nods", 3, 1, 7, 10 - 4, 11, 10);
        act("OLD tells", 3, 2, 7, 6 * 2 + (1 + 3 - 4), 40, 12, 11, 10, 11, 10);
        act("PARTING curls", 4, 0, 7, -11, 50, 10);
        act("PARTING nods", 4, 1, 7, -23, 51, 20, 11, 50, 10);
        act("PARTING tells", 4, 2, 7, -46, 12, 51, 20, 11, 50, 10);
        act("NAPE curls", 5, 0, 7, 21 + 5, 30, 10);
        act("NAPE nods", 5, 1, 7, 26 - 6, 11, 30, 10);
        act("NAPE tells", 5, 2, 7, (6 + 5 - 6) * 2, 60, 12, 11, 30, 10);
        x = new HairAtATime();
        x.head(0, 0, 0);
        x.head(0, 0, 0);
        x.head(6, 9, 0);
        act("TOLD curls", 2, 0, 7, 9 ^ 9, 71, 10);
        act("TOLD nods", 2, 1, 7, 0 - 9 + 4, 70, 11, 71, 10, 10);
        act("TOLD tells", 2, 2, 7, -5 * 2 + (3 ^ 9) - 9 + 4, 40, 12, 70, 11, 71, 10, 10, 70, 11, 71, 10, 10);
    }

    /** "ACTS of a HEAD with x (wrapping)": v 5, i its number. */
    private static void wraps() {
        x = Edges.heads(0, 1, 2, 3, 4, 5);
        long most = MAX;
        long least = MIN;
        act("HEAD curls the most", 0, 0, MAX, most, 10);
        act("HEAD nods the least", 0, 1, MIN, most - 4, 11, 10);
        act("HEAD tells the most", 0, 2, MAX, -12, 12, 11, 10);
        act("FRONT curls the most", 1, 0, MAX, least, 10);
        act("FRONT curls one less", 1, 0, MAX - 1, most, 10);
        act("FRONT nods the least", 1, 1, MIN, (least + 1 - 5 + (1L << 32)) ^ 6, 20, 11, 10);
        act("BACK curls the most", 2, 0, MAX, 3 * most + 2, 30, 10);
        act("BACK curls the least", 2, 0, MIN, least + 2, 30, 10);
        act("OLD tells the most", 3, 2, MAX, 2 * (most + 3 - 5) + (1 + 3 - 5), 40, 12, 11, 10, 11, 10);
        act("PARTING curls to the least", 4, 0, MAX - 3, least, 50, 10);
        act("PARTING nods the most", 4, 1, MAX, (-(least + 4) - 5) ^ 6, 51, 20, 11, 50, 10);
        act("NAPE tells the least", 5, 2, MIN, 2 * (3 * (least - 5) + 5 - 5), 60, 12, 11, 30, 10);
        x = Edges.heads(6);
        act("TOLD curls the most", 0, 0, MAX, most - 5, 71, 10);
        act("TOLD nods the most", 0, 1, MAX, (most ^ 5) - 5 + 2, 70, 11, 71, 10, 10);
        act("TOLD tells the most", 0, 2, MAX, 2 * ((most ^ 5) - 5 + 2) + ((1 ^ 5) - 5 + 2), 40, 12, 70, 11, 71, 10, 10,
            70, 11, 71, 10, 10);
        act("TOLD curls -1", 0, 0, -1, ~5, 71, 10);
    }

    /** "0, and no TRACE then: no such HEAD, act." "THE TRACE's i-th body. NONE." */
    private static void promises29And30() {
        bodies();
        wraps();
        for (int no : new int[] {-1, 3, 6, MIN, MAX}) {
            x = Edges.some();
            due("promise 30: there is one", 12, x.count(6));
            act("head " + no, no, 0, 9, 0);
            EDGES.leaves("promise 29: head " + no + " leaves all else", 0, PlansEdgesTest::traceless,
                y -> y.act(no, 0, 9));
            x = Edges.some();
            act("act " + no, 0, no, 9, 0);
            EDGES.leaves("promise 29: act " + no + " leaves all else", 0, PlansEdgesTest::traceless,
                y -> y.act(0, no, 9));
        }
        due("promise 29: no HEADS", 0, new HairAtATime().act(0, 0, 9));
        leaves("promise 29: the same again", 2 * ((5 + 2 ^ 3) - 3 + 4) + (1 + 2 ^ 3) - 3 + 4, y -> y.act(2, 2, 5));
        changes("promise 29: another", 7, y -> y.act(0, 0, 7));
        for (int i : new int[] {-1, 12, 19, 20, MIN, MAX}) {
            leaves("promise 30: none, " + i, NONE, y -> y.trace(i));
        }
        leaves("promise 30: the first", 40, y -> y.trace(0));
        leaves("promise 30: the last", 10, y -> y.trace(11));
    }

    private static HairAtATime traceless() {
        HairAtATime y = Edges.some();
        y.act(0, -1, 0);
        return y;
    }

    /** "A HEAD taken for one of KIND k (0 .. 6), or one under that: its KIND. BAD: k; NOTHING: no such HEAD; CAST." */
    private static void promise31() {
        leaves("promise 31: for its own KIND", 0, x -> x.taken(0, 0));
        leaves("promise 31: for one above", 1, x -> x.taken(1, 0));
        leaves("promise 31: for its own KIND", 6, x -> x.taken(2, 6));
        leaves("promise 31: for the one above", 6, x -> x.taken(2, 3));
        leaves("promise 31: for the first above", 6, x -> x.taken(2, 0));
        leaves("promise 31: for one under it", CAST, x -> x.taken(0, 6));
        leaves("promise 31: for one beside it", CAST, x -> x.taken(1, 2));
        leaves("promise 31: for one under it", CAST, x -> x.taken(1, 4));
        leaves("promise 31: for one beside the one above", CAST, x -> x.taken(2, 1));
        for (int k : new int[] {-1, 7, MIN, MAX}) {
            leaves("promise 31: k " + k, BAD, x -> x.taken(0, k));
            leaves("promise 31: k ahead of no such HEAD, " + k, BAD, x -> x.taken(3, k));
        }
        for (int no : new int[] {-1, 3, 6, MIN, MAX}) {
            leaves("promise 31: head " + no, Edges.NOTHING, x -> x.taken(no, 0));
            leaves("promise 31: head " + no, Edges.NOTHING, x -> x.taken(no, 6));
        }
    }

    /** "How many: 0 HEADS, 1 THEATRES, .. 6 bodies that ran in the latest act() (all, kept or not). BAD." */
    private static void promise32() {
        int[] some = {3, 1, 2, 2, 2, 2, 12};
        int[] full = {6, 6, 5, 10, 8, 0, 0};
        for (int what = 0; what < 7; what++) {
            int asked = what;
            leaves("promise 32: what " + what, some[what], x -> x.count(asked));
            EDGES.leaves("promise 32: all full, what " + what, full[what], Edges::full, x -> x.count(asked));
            due("promise 32: none, what " + what, 0, new HairAtATime().count(what));
        }
        due("promise 32: a full TEXT", 100, Edges.fullText().count(5));
        for (int what : new int[] {-1, 7, MIN, MAX}) {
            leaves("promise 32: what " + what, BAD, x -> x.count(what));
        }
    }

    public static void main(String[] args) {
        promise22();
        promise23();
        promise24();
        promise25();
        promise26();
        promise27();
        promise28();
        promises29And30();
        promise31();
        promise32();
        EDGES.covers("promise", 22, 32);
        EDGES.end();
    }
}
