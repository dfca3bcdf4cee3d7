import java.util.function.ToLongFunction;

/** Promises 1 to 12: each sentence that names an edge, with answers worked out by hand. */
final class HeadsEdgesTest {
    private static final int MIN = Edges.MIN, MAX = Edges.MAX, NONE = Edges.NONE, BAD = Edges.BAD, STATE = Edges.STATE,
        FULL = Edges.FULL, NOT_ANY = Edges.NOT_ANY, NONE_BELOW = Edges.NONE_BELOW;
    private static final Edges EDGES = new Edges("HeadsEdgesTest");
    private static HairAtATime x;

    private static void due(String what, long want, long got) {
        EDGES.due(what, want, got);
    }

    /** Of three HEADS and a little of all: an answer that leaves all as it was. */
    private static void leaves(String what, long want, ToLongFunction<HairAtATime> call) {
        EDGES.leaves(what, want, Edges::some, call);
    }

    private static void changes(String what, long want, ToLongFunction<HairAtATime> call) {
        EDGES.changes(what, want, Edges::some, call);
    }

    /** "No HEADS, no THEATRE." And all that is asked then. */
    private static void promise1() {
        x = new HairAtATime();
        for (int what = 0; what < 7; what++) {
            due("promise 1: how many, " + what, 0, x.count(what));
        }
        due("promise 1: no HEAD", NONE_BELOW, x.of(0, 0));
        due("promise 1: no HEAD's SHADE", NONE_BELOW, x.shade(0, 0, 0));
        due("promise 1: no THEATRE: RAIN", 0, x.told(1));
        due("promise 1: no hair", 0, x.told(3));
        due("promise 1: no NIGHT gone", 0, x.told(0));
        due("promise 1: none FALLEN", 0, x.told(2));
        due("promise 1: FALLEN on 60 NIGHTS", 0, x.on(60, 0));
        due("promise 1: no HEAD in time", 0, x.inTime(9));
        due("promise 1: nothing SEEN is FALSE", NOT_ANY, x.wrong());
        due("promise 1: no row of the BOOK", NOT_ANY, x.looked());
        due("promise 1: no PLAN", 0, x.ends(0));
        due("promise 1: no PLAN", 0, x.ends(1));
        due("promise 1: no MEAN", Edges.NO, x.mean(0, 0));
        due("promise 1: no TRACE", NONE, x.trace(0));
        due("promise 1: no IMAGE", STATE, x.undo());
        for (int tape = 0; tape < 6; tape++) {
            due("promise 1: no TAPE holds any", Edges.NO, x.read(tape, 0));
            due("promise 1: no TAPE holds any", Edges.NOTHING, x.item(tape, 0, 1));
        }
        due("promise 1: NONE", -1, HairAtATime.NONE);
        due("promise 1: BAD", -2, HairAtATime.BAD);
        due("promise 1: STATE", -3, HairAtATime.STATE);
        due("promise 1: FULL", -4, HairAtATime.FULL);
        due("promise 1: NO", Long.MIN_VALUE, HairAtATime.NO);
    }

    /** "A HEAD: its number. NONE: kind; BAD: v, hers; FULL: 6." KINDS 0 .. 6, v 0 .. 9, HERS 0 .. 99. */
    private static void promise2() {
        changes("promise 2: the first KIND, v, HERS", 3, x -> x.head(0, 0, 0));
        changes("promise 2: the last KIND, v, HERS", 3, x -> x.head(6, 9, 99));
        for (int kind : new int[] {-1, 7, MIN, MAX}) {
            leaves("promise 2: kind " + kind, NONE, x -> x.head(kind, 0, 0));
            leaves("promise 2: kind ahead of v and hers, " + kind, NONE, x -> x.head(kind, 10, -1));
        }
        for (int v : new int[] {-1, 10, MIN, MAX}) {
            leaves("promise 2: v " + v, BAD, x -> x.head(0, v, 0));
        }
        for (int hers : new int[] {-1, 100, MIN, MAX}) {
            leaves("promise 2: hers " + hers, BAD, x -> x.head(6, 9, hers));
        }
        EDGES.leaves("promise 2: a seventh", FULL, Edges::full, x -> x.head(0, 0, 0));
        EDGES.leaves("promise 2: v ahead of FULL", BAD, Edges::full, x -> x.head(0, 10, 0));
        EDGES.leaves("promise 2: hers ahead of FULL", BAD, Edges::full, x -> x.head(0, 0, 100));
        EDGES.leaves("promise 2: kind ahead of FULL", NONE, Edges::full, x -> x.head(7, 0, 0));
        x = new HairAtATime();
        for (int p = 0; p < 6; p++) {
            due("promise 2: its number", p, x.head(6 - p, 9 * (p & 1), 99 * (p & 1)));
            due("promise 2: its KIND", 6 - p, x.of(p, 0));
            due("promise 2: its v", 9 * (p & 1), x.of(p, 1));
            due("promise 2: its HERS", 99 * (p & 1), x.of(p, 2));
            due("promise 2: no next one yet", NONE_BELOW, x.of(p + 1, 0));
        }
        due("promise 2: a seventh", FULL, x.head(0, 0, 0));
    }

    /** "Of a HEAD what 0 KIND, .. 10 and c .. (-5: none), 20 and c how TIGHT it is (0: none). -10001: NONE." */
    private static void promise3() {
        for (int what : new int[] {-1, 18, 19, 28, 29, 30, 100, MIN, MAX}) {
            leaves("promise 3: what " + what, NONE_BELOW, x -> x.of(0, what));
        }
        for (int head : new int[] {-1, 3, 6, MIN, MAX}) {
            leaves("promise 3: head " + head, NONE_BELOW, x -> x.of(head, 0));
        }
        // HEAD 0 of Edges.some: hairs out of 1 (6 TIGHT) and 2 (7 TIGHT), each DRAWER below 5 is 6 warmer; the NIGHT is
        // 2, dry, 3 is wet, 6 is wet: 7 goes by 6 4 3 2 to 0; DRAWER 4 is 6 apart, 3 is 10 by day
        int[] answers = {0, 5, 40, 30, 0, 2, 80 - 16 - 26, 80 - 16 - 26, 5, 4, 1, NOT_ANY, NOT_ANY, NOT_ANY, 2,
            NOT_ANY, NOT_ANY, NOT_ANY};
        for (int what = 0; what < answers.length; what++) {
            int asked = what;
            leaves("promise 3: what " + what, answers[what], x -> x.of(0, asked));
        }
        leaves("promise 3: TIGHT, the first CELL", 6, x -> x.of(0, 20));
        leaves("promise 3: TIGHT, none", 0, x -> x.of(0, 27));
        leaves("promise 3: of the last HEAD, DRAWER 0", 0, x -> x.of(2, 11));
        leaves("promise 3: of the last HEAD, DRAWER 7", 7, x -> x.of(2, 10));
        leaves("promise 3: SHELVED", 1, x -> x.of(1, 4));
        leaves("promise 3: SHELVED, not BALD by 60 NIGHTS", NOT_ANY, x -> x.of(1, 8));
        x = Edges.heads(0);
        x.knot(0, 7, 0, 1);
        due("promise 3: DRAWER 0 in the last CELL", 0, x.of(0, 17));
        due("promise 3: TIGHT in the last CELL", 1, x.of(0, 27));
        x.pass(1);
        due("promise 3: fallen out", NOT_ANY, x.of(0, 17));
        due("promise 3: fallen out", 0, x.of(0, 27));
        due("promise 3: BALD now", 0, x.of(0, 8));
        near();
    }

    /** "NEAR ..: the DRAWER with a STOCK above 0 .. the greater .. is least (of several the first; -5: none)" */
    private static void near() {
        x = Edges.heads(0);
        due("promise 3: NEAR", 4, x.of(0, 9));
        x.set(0, 0, 35);
        due("promise 3: NEAR, the first of two", 3, x.of(0, 9));
        x.drawer(3, 2, 1);
        due("promise 3: NEAR, STOCK 1", 3, x.of(0, 9));
        x.drawer(3, 2, 0);
        due("promise 3: NEAR, STOCK 0", 4, x.of(0, 9));
        x.drawer(4, 0, 35);
        x.drawer(4, 1, 21);
        due("promise 3: NEAR, 14 apart by day", 4, x.of(0, 9));
        x.drawer(4, 1, 20);
        due("promise 3: NEAR, 15 apart: the first of three", 2, x.of(0, 9));
        x.drawer(4, 1, 19);
        x.drawer(2, 0, 51);
        due("promise 3: NEAR, 15 apart, and 16 by either", 5, x.of(0, 9));
        for (int d = 0; d < 8; d++) {
            x.drawer(d, 2, 0);
        }
        due("promise 3: NEAR, no STOCK at all", NOT_ANY, x.of(0, 9));
        x.drawer(0, 2, 1);
        due("promise 3: NEAR, DRAWER 0 alone", 0, x.of(0, 9));
        x.knot(0, 0, 0, 1);
        due("promise 3: NEAR, its last hair knotted", NOT_ANY, x.of(0, 9));
        x = Edges.heads(0);
        for (int c = 0; c < 8; c++) {
            x.knot(0, c, c, 1);
        }
        due("promise 3: NEAR of a HEAD that is full", 4, x.of(0, 9));
        x.shelve(0, true);
        due("promise 3: NEAR of one that is SHELVED", 4, x.of(0, 9));
        due("promise 3: NEAR of a PARTING, HERS by lamp, 5 apart by day", 3, nearOfParting());
    }

    /** By day 5 more: 35 and 45 are as far from 40; by lamp none is. */
    private static int nearOfParting() {
        HairAtATime y = Edges.heads(4);
        y.drawer(4, 1, 20);
        y.drawer(5, 0, 0);
        y.drawer(5, 1, 40);
        return y.of(0, 9);
    }

    /** "SHADE of a DRAWER on a HEAD by a LIGHT. -10001: NONE." */
    private static void promise4() {
        // warm 6 c<5 holds
        leaves("promise 4: the first", 6, x -> x.shade(0, 0, 0));
        leaves("promise 4: the last DRAWER", 70, x -> x.shade(0, 7, 1));
        leaves("promise 4: by day", 50, x -> x.shade(0, 3, 1));
        leaves("promise 4: by lamp", 39, x -> x.shade(0, 3, 0));
        leaves("promise 4: the last HEAD, NIGHT 2, ROW 9", 70 - 2 + 9, x -> x.shade(2, 7, 1));
        for (int no : new int[] {-1, 8, MIN, MAX}) {
            leaves("promise 4: head " + no, NONE_BELOW, x -> x.shade(no, 0, 0));
            leaves("promise 4: drawer " + no, NONE_BELOW, x -> x.shade(0, no, 0));
            leaves("promise 4: light " + no, NONE_BELOW, x -> x.shade(0, 0, no));
        }
        leaves("promise 4: head 3", NONE_BELOW, x -> x.shade(3, 0, 0));
        leaves("promise 4: light 2", NONE_BELOW, x -> x.shade(0, 0, 2));
        x = Edges.heads(0);
        Checks.theatre(x, "cool 1 p<9");
        due("promise 4: below 0, like NONE elsewhere", -1, x.shade(0, 0, 0));
        Checks.theatre(x, "cool 99 p<9;cool 99 p<9;cool 99 p<9;cool 99 p<9;cool 99 p<9");
        due("promise 4: far below 0", -495, x.shade(0, 0, 0));
    }

    /** "Of a HEAD 0 HERS (0 .. 99), 1 DUE (0 .. 30) becomes n: what it was. NONE: head, what; BAD." */
    private static void promise5() {
        changes("promise 5: HERS 0", 40, x -> x.set(0, 0, 0));
        changes("promise 5: HERS 99", 40, x -> x.set(0, 0, 99));
        changes("promise 5: DUE 0", 30, x -> x.set(0, 1, 0));
        changes("promise 5: DUE 30", 7, x -> x.set(2, 1, 30));
        leaves("promise 5: as it was", 40, x -> x.set(0, 0, 40));
        for (int n : new int[] {-1, 100, MIN, MAX}) {
            leaves("promise 5: HERS " + n, BAD, x -> x.set(0, 0, n));
        }
        for (int n : new int[] {-1, 31, 99, MIN, MAX}) {
            leaves("promise 5: DUE " + n, BAD, x -> x.set(2, 1, n));
        }
        for (int no : new int[] {-1, 3, MIN, MAX}) {
            leaves("promise 5: head ahead of n, " + no, NONE, x -> x.set(no, 0, 100));
            leaves("promise 5: what ahead of n, " + no, NONE, x -> x.set(0, no, 100));
            leaves("promise 5: head " + no, NONE, x -> x.set(no, 0, 1));
            leaves("promise 5: what " + no, NONE, x -> x.set(0, no, 1));
        }
        leaves("promise 5: what 2", NONE, x -> x.set(0, 2, 1));
        x = Edges.heads(0, 0);
        x.set(1, 0, 99);
        x.set(1, 1, 0);
        due("promise 5: the latest HERS", 99, x.set(1, 0, 3));
        due("promise 5: the latest DUE", 0, x.set(1, 1, 3));
        due("promise 5: no other's HERS", 40, x.of(0, 2));
        due("promise 5: no other's DUE", 30, x.of(0, 3));
    }

    /** "Of a DRAWER 0 its shade by lamp, 1 by day, 2 STOCK becomes n (0 .. 99): what it was. NONE: drawer, what; BAD." */
    private static void promise6() {
        changes("promise 6: the first DRAWER, by lamp, 99", 0, x -> x.drawer(0, 0, 99));
        changes("promise 6: the last DRAWER, by day, 0", 70, x -> x.drawer(7, 1, 0));
        changes("promise 6: STOCK 99", 9, x -> x.drawer(7, 2, 99));
        changes("promise 6: STOCK 0", 9, x -> x.drawer(7, 2, 0));
        leaves("promise 6: as it was", 44, x -> x.drawer(3, 1, 44));
        for (int what = 0; what < 3; what++) {
            int asked = what;
            for (int n : new int[] {-1, 100, MIN, MAX}) {
                leaves("promise 6: what " + what + " becomes " + n, BAD, x -> x.drawer(3, asked, n));
            }
        }
        for (int no : new int[] {-1, 8, MIN, MAX}) {
            leaves("promise 6: drawer ahead of n, " + no, NONE, x -> x.drawer(no, 0, 100));
            leaves("promise 6: drawer " + no, NONE, x -> x.drawer(no, 0, 1));
            leaves("promise 6: what " + no, NONE, x -> x.drawer(0, no, 1));
        }
        leaves("promise 6: what 3", NONE, x -> x.drawer(0, 3, 1));
        leaves("promise 6: what 3 ahead of n", NONE, x -> x.drawer(0, 3, 100));
        x = new HairAtATime();
        for (int d = 0; d < 8; d++) {
            for (int what = 0; what < 3; what++) {
                due("promise 6: as it was at first", what == 2 ? 10 : 10 * d, x.drawer(d, what, 99));
                due("promise 6: 99", 99, x.told(what == 0 ? 20 + d : what == 1 ? 30 + d : 10 + d));
                due("promise 6: 0", 99, x.drawer(d, what, 0));
                due("promise 6: what it was, 0", 0, x.drawer(d, what, 1));
            }
        }
        x = new HairAtATime();
        for (int what = 0; what < 3; what++) {
            x.drawer(7, what, 90 + what);
            due("promise 6: becomes n", 90 + what, x.told(what == 0 ? 27 : what == 1 ? 37 : 17));
            due("promise 6: what it was", 90 + what, x.drawer(7, what, 0));
        }
    }

    /** "A hair .. is knotted ..: STOCK then. NONE: head, cell, drawer; BAD: tight; STATE: there is one; FULL: .. no STOCK." */
    private static void promise7() {
        changes("promise 7: the first CELL that is free, TIGHT 1", 9, x -> x.knot(0, 1, 3, 1));
        changes("promise 7: the last CELL, TIGHT 9", 8, x -> x.knot(0, 7, 7, 9));
        changes("promise 7: onto a SHELVED one", 8, x -> x.knot(1, 0, 7, 9));
        for (int tight : new int[] {0, 10, -1, MIN, MAX}) {
            leaves("promise 7: tight " + tight, BAD, x -> x.knot(0, 1, 1, tight));
            leaves("promise 7: tight ahead of STATE and FULL, " + tight, BAD, x -> x.knot(0, 0, 5, tight));
            leaves("promise 7: cell ahead of tight, " + tight, NONE, x -> x.knot(0, 8, 0, tight));
        }
        for (int no : new int[] {-1, 8, MIN, MAX}) {
            leaves("promise 7: head " + no, NONE, x -> x.knot(no, 0, 0, 1));
            leaves("promise 7: cell " + no, NONE, x -> x.knot(0, no, 0, 1));
            leaves("promise 7: drawer " + no, NONE, x -> x.knot(0, 1, no, 1));
            leaves("promise 7: drawer ahead of tight, " + no, NONE, x -> x.knot(0, 1, no, 0));
            leaves("promise 7: drawer ahead of STATE, " + no, NONE, x -> x.knot(0, 0, no, 1));
        }
        leaves("promise 7: head 3", NONE, x -> x.knot(3, 0, 0, 1));
        leaves("promise 7: head 3 ahead of tight", NONE, x -> x.knot(3, 0, 0, 0));
        leaves("promise 7: there is one", STATE, x -> x.knot(0, 0, 0, 1));
        leaves("promise 7: there is one, ahead of no STOCK", STATE, x -> x.knot(0, 0, 5, 1));
        leaves("promise 7: there is no STOCK", FULL, x -> x.knot(0, 1, 5, 1));
        x = Edges.heads(0);
        x.drawer(0, 2, 2);
        due("promise 7: STOCK then", 1, x.knot(0, 0, 0, 1));
        due("promise 7: STOCK then, the last one", 0, x.knot(0, 1, 0, 9));
        due("promise 7: no STOCK", FULL, x.knot(0, 2, 0, 1));
        x.pass(1);
        due("promise 7: what fell out is not STOCK", FULL, x.knot(0, 0, 0, 1));
        due("promise 7: into the CELL out of which it fell", 9, x.knot(0, 0, 1, 1));
        for (int c = 2; c < 8; c++) {
            due("promise 7: all CELLS", 10 - c, x.knot(0, c, 1, 1));
        }
        due("promise 7: how many hairs", 8, x.of(0, 5));
    }

    /** "A HEAD is SHELVED, or not: whether it was. NONE." */
    private static void promise8() {
        changes("promise 8: is SHELVED", 0, x -> x.shelve(0, true));
        changes("promise 8: is not", 1, x -> x.shelve(1, false));
        leaves("promise 8: is not, as it was", 0, x -> x.shelve(0, false));
        leaves("promise 8: is SHELVED, as it was", 1, x -> x.shelve(1, true));
        x = Edges.heads(0, 0);
        for (int again = 0; again < 2; again++) {
            due("promise 8: it was not", 0, x.shelve(1, true));
            due("promise 8: it was", 1, x.shelve(1, true));
            due("promise 8: the other one was not", 0, x.shelve(0, false));
            due("promise 8: it was", 1, x.shelve(1, false));
            due("promise 8: it was not any more", 0, x.shelve(1, false));
        }
        for (int no : new int[] {-1, 3, 6, MIN, MAX}) {
            leaves("promise 8: head " + no, NONE, x -> x.shelve(no, true));
            leaves("promise 8: head " + no, NONE, x -> x.shelve(no, false));
        }
    }

    /** "The ROW of a TOLD one becomes n (0 .. 9) ..: what it was. NONE: head, part; BAD; STATE: another KIND." */
    private static void promise9() {
        changes("promise 9: the first part, 9", 0, x -> x.row(2, 0, 9));
        changes("promise 9: the last part, 0", 9, x -> x.row(2, 3, 0));
        leaves("promise 9: as it was", 6, x -> x.row(2, 1, 6));
        for (int n : new int[] {-1, 10, MIN, MAX}) {
            leaves("promise 9: n " + n, BAD, x -> x.row(2, 0, n));
            leaves("promise 9: n ahead of another KIND, " + n, BAD, x -> x.row(0, 0, n));
        }
        for (int no : new int[] {-1, 4, MIN, MAX}) {
            leaves("promise 9: head " + no, NONE, x -> x.row(no, 0, 1));
            leaves("promise 9: part " + no, NONE, x -> x.row(2, no, 1));
            leaves("promise 9: part ahead of n, " + no, NONE, x -> x.row(2, no, 10));
            leaves("promise 9: part ahead of another KIND, " + no, NONE, x -> x.row(0, no, 1));
        }
        leaves("promise 9: head 3", NONE, x -> x.row(3, 0, 1));
        leaves("promise 9: head 3 ahead of n", NONE, x -> x.row(3, 0, 10));
        for (int kind = 0; kind < 6; kind++) {
            x = Edges.heads(kind);
            due("promise 9: another KIND, " + kind, STATE, x.row(0, 0, 0));
        }
        leaves("promise 9: another KIND", STATE, x -> x.row(0, 0, 1));
        x = Edges.heads(6, 6);
        x.row(0, 3, 9);
        due("promise 9: DRAWER 3", 39, x.shade(0, 3, 0));
        due("promise 9: DRAWER 7", 79, x.shade(0, 7, 1));
        due("promise 9: no other part", 60, x.shade(0, 6, 0));
        due("promise 9: no other one's", 30, x.shade(1, 3, 0));
    }

    /** "A sign (0 .. 127) comes behind THE TEXT's: how many it has. BAD; FULL." */
    private static void promise10() {
        changes("promise 10: sign 0", 3, x -> x.feed(0));
        changes("promise 10: sign 127", 3, x -> x.feed(127));
        for (int sign : new int[] {-1, 128, 255, 256 + 'w', MIN, MAX}) {
            leaves("promise 10: sign " + sign, BAD, x -> x.feed(sign));
            EDGES.leaves("promise 10: sign ahead of FULL, " + sign, BAD, Edges::fullText, x -> x.feed(sign));
        }
        EDGES.leaves("promise 10: a 101st", FULL, Edges::fullText, x -> x.feed('|'));
        EDGES.leaves("promise 10: a 101st", FULL, Edges::fullText, x -> x.feed(0));
        x = new HairAtATime();
        for (int i = 0; i < 100; i++) {
            due("promise 10: how many it has", i + 1, x.feed(Edges.FULL_TEXT.charAt(i)));
        }
        due("promise 10: a 101st", FULL, x.feed('1'));
        due("promise 10: it is as it was fed", 0, x.theatre());
        due("promise 10: behind that, from 1 on", 1, x.feed('r'));
    }

    /** "THE TEXT, which is empty then, is a THEATRE ..: its number. FULL: there are 6 (THE TEXT stays); -10 less the FAULT" */
    private static void promise11() {
        EDGES.changes("promise 11: a right one", 0, Edges::fullText, HairAtATime::theatre);
        EDGES.leaves("promise 11: a seventh", FULL, Edges::full, HairAtATime::theatre);
        EDGES.leaves("promise 11: a seventh, FULL ahead of the FAULT", FULL, () -> {
            HairAtATime y = Edges.full();
            Checks.feed(y, "rain x");
            return y;
        }, HairAtATime::theatre);
        x = Edges.full();
        Checks.feed(x, "rain 9");
        due("promise 11: a seventh", FULL, x.theatre());
        due("promise 11: THE TEXT stays", 6, x.count(5));
        due("promise 11: and goes on", 7, x.feed(';'));
        x = Edges.heads(0);
        due("promise 11: the FAULT of an empty one", -10, x.theatre());
        due("promise 11: none came", 0, x.count(1));
        for (int i = 0; i < 6; i++) {
            due("promise 11: a FAULT between", -16, Checks.theatre(x, "rain 1x"));
            due("promise 11: empty then, by a FAULT", 0, x.count(5));
            due("promise 11: the one that held holds", i == 0 ? 0 : i + 10, x.told(1));
            due("promise 11: how many as before", i, x.count(1));
            due("promise 11: its number", i, Checks.theatre(x, "rain " + (i + 11)));
            due("promise 11: empty then", 0, x.count(5));
            due("promise 11: it holds", i + 11, x.told(1));
            due("promise 11: how many", i + 1, x.count(1));
        }
        due("promise 11: FULL ahead of the FAULT", FULL, x.theatre());
        due("promise 11: the greatest FAULT", -110, Checks.theatre(new HairAtATime(), "warm 11 " + "p=9|".repeat(23)));
    }

    /** "What 0 NIGHT, 1 RAIN, 2 FALLEN, 3 how many hairs all have, 10 and d .., 20 and d .., 30 and d by day. NONE." */
    private static void promise12() {
        for (int what : new int[] {-1, 4, 5, 9, 18, 19, 28, 29, 38, 39, 100, MIN, MAX}) {
            leaves("promise 12: what " + what, NONE, x -> x.told(what));
        }
        int[] asked = {0, 1, 2, 3, 10, 15, 17, 20, 23, 27, 30, 33, 37};
        int[] answers = {2, 3, 1, 5, 9, 0, 9, 0, 33, 70, 0, 44, 70};
        for (int i = 0; i < asked.length; i++) {
            int what = asked[i];
            leaves("promise 12: what " + what, answers[i], x -> x.told(what));
        }
        x = Edges.heads(0, 0, 0, 0, 0, 0);
        for (int i = 0; i < 48; i++) {
            x.knot(i / 8, i % 8, i % 8, 1);
        }
        due("promise 12: all CELLS of all HEADS", 48, x.told(3));
        x.pass(1);
        due("promise 12: none of them", 0, x.told(3));
        due("promise 12: all FALLEN", 48, x.told(2));
    }

    public static void main(String[] args) {
        promise1();
        promise2();
        promise3();
        promise4();
        promise5();
        promise6();
        promise7();
        promise8();
        promise9();
        promise10();
        promise11();
        promise12();
        EDGES.covers("promise", 1, 12);
        EDGES.end();
    }
}
