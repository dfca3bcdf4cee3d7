import java.util.function.ToLongFunction;

/** Promises 13 to 21: each sentence that names an edge, with answers worked out by hand. */
final class NightsEdgesTest {
    private static final int MIN = Edges.MIN, MAX = Edges.MAX, NONE = Edges.NONE, BAD = Edges.BAD, STATE = Edges.STATE,
        FULL = Edges.FULL, NOT_ANY = Edges.NOT_ANY;
    private static final long NO = Edges.NO;
    private static final Edges EDGES = new Edges("NightsEdgesTest");
    private static HairAtATime x;

    private static void due(String what, long want, long got) {
        EDGES.due(what, want, got);
    }

    private static void leaves(String what, long want, ToLongFunction<HairAtATime> call) {
        EDGES.leaves(what, want, Edges::some, call);
    }

    private static void changes(String what, long want, ToLongFunction<HairAtATime> call) {
        EDGES.changes(what, want, Edges::some, call);
    }

    /** "n NIGHTS (0 .. 60) go: NIGHT. BAD; STATE: it would be above 9999." */
    private static void promise13() {
        leaves("promise 13: 0 NIGHTS", 2, x -> x.pass(0));
        changes("promise 13: 1 NIGHT", 3, x -> x.pass(1));
        changes("promise 13: 60 NIGHTS", 62, x -> x.pass(60));
        for (int n : new int[] {-1, 61, MIN, MAX}) {
            leaves("promise 13: n " + n, BAD, x -> x.pass(n));
            EDGES.leaves("promise 13: n ahead of STATE, " + n, BAD, () -> Edges.late(0), x -> x.pass(n));
        }
        int[] missing = {0, 0, 1, 1, 1, 59, 59, 60};
        int[] n = {0, 1, 0, 1, 2, 59, 60, 60};
        boolean[] goes = {true, false, true, true, false, true, false, true};
        for (int i = 0; i < n.length; i++) {
            int less = missing[i];
            int nights = n[i];
            if (goes[i]) {
                due("promise 13: " + nights + " of " + less, 9999 - less + nights, Edges.late(less).pass(nights));
            } else {
                EDGES.leaves("promise 13: above 9999, " + nights, STATE, () -> Edges.late(less), x -> x.pass(nights));
            }
        }
        x = Edges.some();
        HairAtATime y = Edges.some();
        x.pass(5);
        for (int i = 0; i < 5; i++) {
            y.pass(1);
        }
        for (int what = 0; what < 38; what++) {
            due("promise 13: five at once and one by one", y.told(what), x.told(what));
        }
        // 6 and 7 TIGHT by RAIN 3 from NIGHT 2 on: both out behind NIGHT 6; HEAD 2's are out, HEAD 1 is SHELVED
        due("promise 13: FALLEN", 5, x.told(2));
        due("promise 13: hairs", 1, x.told(3));
    }

    /** "ON: what 0 FALLEN, 10 and p .., 20 and p OFF by lamp, 30 and p OFF by day. NONE; BAD: n." */
    private static void promise14() {
        int[][] on = {{0, 0, 1}, {1, 0, 2}, {2, 0, 3}, {4, 0, 3}, {5, 0, 5}, {60, 0, 5}, {0, 10, 2}, {4, 10, 2},
            {5, 10, 0}, {60, 10, 0}, {60, 11, 1}, {0, 12, 2}, {1, 12, 1}, {2, 12, 0}, {0, 20, 38}, {60, 20, 0},
            {60, 21, 34}, {60, 31, 43}, {0, 22, 59}, {1, 22, 6}, {1, 32, 6}, {2, 32, 0}};
        for (int[] one : on) {
            leaves("promise 14: ON " + one[0] + ", " + one[1], one[2], x -> x.on(one[0], one[1]));
        }
        for (int what : new int[] {-1, 1, 2, 9, 13, 15, 16, 19, 23, 29, 33, 39, 40, 41, 50, MIN, MAX}) {
            leaves("promise 14: what " + what, NONE, x -> x.on(0, what));
            leaves("promise 14: what ahead of n, " + what, NONE, x -> x.on(61, what));
        }
        for (int n : new int[] {-1, 61, MIN, MAX}) {
            leaves("promise 14: n " + n, BAD, x -> x.on(n, 0));
            leaves("promise 14: n " + n, BAD, x -> x.on(n, 32));
        }
        x = Edges.heads(0, 0, 0, 0, 0, 0);
        due("promise 14: the last HEAD", 0, x.on(60, 15));
        due("promise 14: the last HEAD by lamp", 0, x.on(60, 25));
        due("promise 14: the last HEAD by day", 0, x.on(60, 35));
        x.knot(5, 0, 7, 3);
        due("promise 14: the last HEAD's hair", 1, x.on(2, 15));
        due("promise 14: the last HEAD by lamp", 30, x.on(2, 25));
        due("promise 14: the last HEAD by day", 30, x.on(2, 35));
        due("promise 14: the last HEAD, bald", 0, x.on(3, 35));
        due("promise 14: no HEAD 6", NONE, x.on(0, 16));
        x = Edges.heads(0, 0, 0, 0, 0, 0);
        int[] lamp = {30, 20, 10, 0, 10, 20};
        int[] day = {58, 57, 56, 55, 54, 53};
        for (int p = 0; p < 6; p++) {
            x.drawer(p + 1, 1, 98 - p);
            x.knot(p, 7, p + 1, 9);
            due("promise 14: hairs of HEAD " + p, 1, x.on(8, 10 + p));
            due("promise 14: HEAD " + p + " by lamp", lamp[p], x.on(8, 20 + p));
            due("promise 14: HEAD " + p + " by day", day[p], x.on(8, 30 + p));
            due("promise 14: HEAD " + p + ", bald", 0, x.on(9, 30 + p));
        }
        due("promise 14: FALLEN of all", 6, x.on(9, 0));
        due("promise 14: no HEAD at all", NONE, new HairAtATime().on(0, 10));
        due("promise 14: FALLEN without HEADS", 0, new HairAtATime().on(60, 0));
    }

    /** A MIX for HEAD 0 by lamp: how much, and its row. */
    private static void mix(String what, int much, int... row) {
        due("promise 15: " + what + ", apart", much, x.mix(0, 0, row.length, -1));
        for (int k = 0; k < 4; k++) {
            due("promise 15: " + what + ", k " + k, k < row.length ? row[k] : NOT_ANY, x.mix(0, 0, row.length, k));
        }
    }

    private static void noMix(int n) {
        for (int k = -1; k < 4; k++) {
            due("promise 15: there is no such row of " + n + ", k " + k, NOT_ANY, x.mix(0, 0, n, k));
        }
    }

    private static void stock(int... stock) {
        for (int d = 0; d < 8; d++) {
            x.drawer(d, 2, stock[d]);
        }
    }

    private static HairAtATime of(int kind, int v, int hers) {
        HairAtATime y = new HairAtATime();
        y.head(kind, v, hers);
        return y;
    }

    /** "all rows of n DRAWERS, none less than the one ahead of it, that have the STOCK, .. least apart (.. the first ..)" */
    private static void mixes() {
        x = of(0, 0, 0);
        mix("HERS 0", 0, 0);
        mix("HERS 0", 0, 0, 0, 0, 0);
        x.drawer(0, 2, 4);
        mix("STOCK 4", 0, 0, 0, 0, 0);
        x.drawer(0, 2, 3);
        mix("STOCK 3", 10, 0, 0, 0, 1);
        mix("STOCK 3", 0, 0, 0, 0);
        x.drawer(0, 2, 1);
        mix("STOCK 1", 0, 0);
        mix("STOCK 1", 10, 0, 1);
        x.drawer(0, 2, 0);
        mix("STOCK 0", 10, 1);
        mix("STOCK 0", 40, 1, 1, 1, 1);
        x = of(0, 0, 99);
        mix("HERS 99", 116, 7, 7, 7, 7);
        x.drawer(7, 2, 3);
        mix("HERS 99", 126, 6, 7, 7, 7);
        x = of(0, 0, 35);
        mix("the first of two", 5, 3);
        mix("the first of four", 0, 0, 7);
        mix("the first of many, 5 above or below", 5, 0, 3, 7);
        mix("the first of many", 0, 0, 0, 7, 7);
        stock(0, 0, 0, 0, 0, 0, 0, 1);
        mix("the last DRAWER alone", 35, 7);
        noMix(2);
        noMix(3);
        noMix(4);
        stock(0, 0, 1, 0, 0, 1, 0, 0);
        mix("two that have one", 0, 2, 5);
        noMix(3);
        stock(0, 0, 0, 0, 0, 0, 0, 0);
        noMix(1);
        noMix(4);
        x = of(4, 0, 57);
        mix("each is HERS by lamp", 0, 0, 0, 0);
        x = of(0, 0, 0);
        Checks.theatre(x, "cool 99 p<9");
        mix("SHADES below 0", 29, 7);
        mix("SHADES below 0", 29 * 4, 7, 7, 7, 7);
        x = of(1, 9, 9);
        due("promise 15: by day, v more", 0, x.mix(0, 1, 1, 0));
        due("promise 15: by day, v more", 0, x.mix(0, 1, 1, -1));
        due("promise 15: by lamp", 1, x.mix(0, 0, 1, 0));
        x = of(0, 0, 34);
        for (int c = 0; c < 8; c++) {
            x.knot(0, c, 0, 1);
        }
        mix("whatever hair it has: it is full", 2, 0, 7);
        x.shelve(0, true);
        mix("whether it is SHELVED or not", 4, 3);
    }

    /** "k -1 how much they are apart, else the k-th (k beyond the row: -5); -5. NONE: head, light, k (-1 .. 3); BAD: n." */
    private static void promise15() {
        mixes();
        // HEAD 0 of Edges.some: HERS 40; by lamp 6 16 26 39 46 (50: no STOCK) 60 70
        leaves("promise 15: of one", 1, x -> x.mix(0, 0, 1, -1));
        leaves("promise 15: of one", 3, x -> x.mix(0, 0, 1, 0));
        leaves("promise 15: k beyond the row", NOT_ANY, x -> x.mix(0, 0, 1, 1));
        leaves("promise 15: k beyond the row", NOT_ANY, x -> x.mix(0, 0, 3, 3));
        for (int no : new int[] {-1, 3, 6, MIN, MAX}) {
            leaves("promise 15: head " + no, NONE, x -> x.mix(no, 0, 1, 0));
            leaves("promise 15: head ahead of n, " + no, NONE, x -> x.mix(no, 0, 5, 0));
        }
        for (int no : new int[] {-1, 2, MIN, MAX}) {
            leaves("promise 15: light " + no, NONE, x -> x.mix(0, no, 1, 0));
            leaves("promise 15: light ahead of n, " + no, NONE, x -> x.mix(0, no, 0, 0));
        }
        for (int no : new int[] {-2, 4, MIN, MAX}) {
            leaves("promise 15: k " + no, NONE, x -> x.mix(0, 0, 4, no));
            leaves("promise 15: k ahead of n, " + no, NONE, x -> x.mix(0, 0, 5, no));
        }
        for (int n : new int[] {0, 5, -1, MIN, MAX}) {
            leaves("promise 15: n " + n, BAD, x -> x.mix(0, 0, n, -1));
            leaves("promise 15: n " + n, BAD, x -> x.mix(0, 1, n, 3));
        }
    }

    /** HEADS without hair, of these DUES. */
    private static void dues(int... dues) {
        x = new HairAtATime();
        for (int p = 0; p < dues.length; p++) {
            x.head(p % 7, 0, 0);
            x.set(p, 1, dues[p]);
        }
    }

    private static void inTime(String what, int pace, int bits) {
        due("promise 16: " + what, bits, x.inTime(pace));
    }

    /** "IN TIME at a pace of n (1 .. 9 hairs a night): .. (a HEAD takes as many whole nights as it needs) .." */
    private static void promise16() {
        for (int pace : new int[] {0, 10, -1, MIN, MAX}) {
            leaves("promise 16: pace " + pace, BAD, x -> x.inTime(pace));
        }
        leaves("promise 16: all by 30, 30 and 7", 7, x -> x.inTime(9));
        x = new HairAtATime();
        inTime("no HEADS", 1, 0);
        int[] nights = {8, 4, 3, 2, 2, 2, 2, 1, 1};
        for (int pace = 1; pace <= 9; pace++) {
            dues(nights[pace - 1]);
            inTime("no more nights than DUE, pace " + pace, pace, 1);
            dues(nights[pace - 1] - 1);
            inTime("more nights than DUE, pace " + pace, pace, 0);
        }
        int[] byThree = {3, 3, 2, 2, 2, 1, 1, 1, 0};
        for (int hairs = 0; hairs <= 8; hairs++) {
            dues(byThree[hairs]);
            for (int c = 0; c < hairs; c++) {
                x.knot(0, c, c, 1);
            }
            inTime("whole nights, " + hairs + " hairs", 3, 1);
            if (hairs < 8) {
                x.set(0, 1, byThree[hairs] - 1);
                inTime("a night less, " + hairs + " hairs", 3, 0);
            }
        }
        sets();
    }

    /** "one behind the other by DUE .., one with most HEADS (as bits; of several the least as bits)" */
    private static void sets() {
        dues(30, 8);
        inTime("by DUE, not by number", 1, 0b11);
        dues(30, 7);
        inTime("the other one alone", 1, 0b01);
        dues(15, 8);
        inTime("the second is ahead of the first, which is late then", 1, 0b01);
        dues(16, 8);
        inTime("the second is ahead of the first", 1, 0b11);
        dues(23, 8, 16);
        inTime("both ahead of the first, which is late then", 1, 0b011);
        dues(24, 16, 8);
        inTime("one behind the other, from the last on", 1, 0b111);
        dues(15, 16);
        inTime("8 and 16", 1, 0b11);
        dues(15, 15);
        inTime("the least of two", 1, 0b01);
        dues(16, 16, 16);
        inTime("the least of three", 1, 0b011);
        dues(7, 16, 16);
        inTime("not the first", 1, 0b110);
        dues(8, 15, 16);
        inTime("the first and the last", 1, 0b101);
        dues(0, 0, 0);
        inTime("none by DUE 0", 9, 0);
        dues(30, 30, 30, 30, 30, 30);
        inTime("24 nights, not 32", 1, 0b000111);
        inTime("24 nights", 2, 0b111111);
        dues(1, 2, 3, 4, 5, 6);
        inTime("a night each", 8, 0b111111);
        inTime("two nights each", 7, 0b101010);
        dues(8, 8, 8);
        for (int p = 1; p < 3; p++) {
            for (int c = 0; c < 4; c++) {
                x.knot(p, c, c, 1);
            }
        }
        inTime("most HEADS, though the first could be", 1, 0b110);
        x.shelve(1, true);
        x.shelve(2, true);
        inTime("SHELVED ones too", 1, 0b110);
        dues(8, 16);
        stock(0, 0, 0, 0, 0, 0, 0, 0);
        inTime("whatever STOCK there is", 1, 0b11);
        x.pass(60);
        inTime("begun on this NIGHT", 1, 0b11);
    }

    /** "What is SEEN comes: how many (head -1: none then, 0, ..). NONE: head, light; BAD: off; FULL: 5." */
    private static void promise17() {
        changes("promise 17: off 0", 3, x -> x.see(0, 0, 0));
        changes("promise 17: off 9999", 3, x -> x.see(2, 1, 9999));
        changes("promise 17: none then", 0, x -> x.see(-1, 0, 0));
        changes("promise 17: none then, whatever the others are", 0, x -> x.see(-1, MIN, MAX));
        EDGES.changes("promise 17: none then, though FULL", 0, Edges::full, x -> x.see(-1, 2, 10000));
        for (int no : new int[] {-2, 3, 6, MIN, MAX}) {
            leaves("promise 17: head " + no, NONE, x -> x.see(no, 0, 0));
            leaves("promise 17: head ahead of off, " + no, NONE, x -> x.see(no, 0, -1));
        }
        for (int no : new int[] {-1, 2, MIN, MAX}) {
            leaves("promise 17: light " + no, NONE, x -> x.see(0, no, 0));
            leaves("promise 17: light ahead of off, " + no, NONE, x -> x.see(0, no, 10000));
            EDGES.leaves("promise 17: light ahead of FULL, " + no, NONE, Edges::full, x -> x.see(0, no, 0));
        }
        for (int off : new int[] {-1, 10000, MIN, MAX}) {
            leaves("promise 17: off " + off, BAD, x -> x.see(0, 0, off));
            EDGES.leaves("promise 17: off ahead of FULL, " + off, BAD, Edges::full, x -> x.see(0, 0, off));
        }
        EDGES.leaves("promise 17: a sixth", FULL, Edges::full, x -> x.see(0, 0, 0));
        EDGES.leaves("promise 17: head ahead of FULL", NONE, Edges::full, x -> x.see(6, 0, 0));
        x = Edges.heads(0);
        for (int again = 0; again < 2; again++) {
            for (int i = 1; i <= 5; i++) {
                due("promise 17: how many there are", i, x.see(0, i & 1, 0));
            }
            due("promise 17: a sixth", FULL, x.see(0, 0, 0));
            due("promise 17: none then", 0, x.see(-1, 0, 0));
        }
    }

    /** "FALSE: the first row of SEEN that is not so (-5: all are)." */
    private static void promise18() {
        x = Edges.heads(0, 1);
        x.knot(0, 0, 3, 9);
        x.knot(1, 0, 3, 9);
        due("promise 18: nothing is SEEN", NOT_ANY, x.wrong());
        int[][] seen = {{0, 0, 10}, {0, 1, 10}, {1, 0, 10}, {1, 1, 5}};
        for (int[] row : seen) {
            x.see(row[0], row[1], row[2]);
            due("promise 18: all are", NOT_ANY, x.wrong());
        }
        x.see(1, 1, 6);
        due("promise 18: the last one is not", 4, x.wrong());
        x.set(0, 0, 41);
        due("promise 18: the first one is not", 0, x.wrong());
        x.set(0, 0, 20);
        due("promise 18: 10 OFF again, the other way", 4, x.wrong());
        x.drawer(3, 1, 31);
        due("promise 18: by day", 1, x.wrong());
        for (int off : new int[] {9, 10, 11}) {
            x = Edges.heads(0);
            x.knot(0, 0, 3, 9);
            x.see(0, 0, off);
            due("promise 18: OFF 10, SEEN " + off, off == 10 ? NOT_ANY : 0, x.wrong());
        }
        leaves("promise 18: of HEAD 0, which has another hair now", 0, HairAtATime::wrong);
        x = of(3, 0, 30);
        x.knot(0, 0, 3, 9);
        x.see(0, 0, 2);
        for (int night = 0; night < 4; night++) {
            due("promise 18: an OLD one by NIGHT " + night, night == 2 ? NOT_ANY : 0, x.wrong());
            x.pass(1);
        }
        x = of(0, 0, 30);
        x.knot(0, 0, 3, 9);
        x.see(0, 0, 6);
        due("promise 18: not 6 OFF yet", 0, x.wrong());
        Checks.theatre(x, "cool 6 n=0");
        due("promise 18: 6 OFF by the THEATRE", NOT_ANY, x.wrong());
        x.shelve(0, true);
        due("promise 18: SHELVED or not", NOT_ANY, x.wrong());
        x.pass(1);
        due("promise 18: not by that NIGHT", 0, x.wrong());
    }

    /** All that can(head, which, ..) says. */
    private static void can(String what, int head, int which, int many, int least) {
        due("promise 19: " + what + ", how many", many, x.can(head, which, 0));
        due("promise 19: " + what + ", the least", least, x.can(head, which, 1));
    }

    private static void seen(int kind, int hers, int drawer, int light, int off) {
        x = of(kind, 5, hers);
        x.knot(0, 0, drawer, 9);
        x.see(0, light, off);
    }

    /** "WANTED ..: how many numbers (0 .. 99) there are by which, were that HERS, all of SEEN that is of it is so" */
    private static void wanted() {
        x = of(0, 5, 40);
        can("nothing is SEEN", 0, 0, 100, 0);
        x.see(0, 0, 0);
        can("without hair, not OFF", 0, 0, 100, 0);
        x.see(0, 0, 1);
        can("without hair, 1 OFF", 0, 0, 0, NOT_ANY);
        seen(0, 40, 0, 0, 0);
        can("HERS 0", 0, 0, 1, 0);
        seen(0, 40, 0, 0, 99);
        can("HERS 99", 0, 0, 1, 99);
        seen(0, 40, 0, 0, 100);
        can("HERS would be 100", 0, 0, 0, NOT_ANY);
        seen(0, 40, 5, 0, 50);
        can("HERS 0, it would be 100", 0, 0, 1, 0);
        seen(0, 40, 5, 0, 49);
        can("HERS 1 and 99", 0, 0, 2, 1);
        seen(0, 40, 5, 0, 51);
        can("HERS would be below 0, or 101", 0, 0, 0, NOT_ANY);
        seen(0, 40, 5, 0, 9999);
        can("OFF 9999", 0, 0, 0, NOT_ANY);
        x = Edges.heads(0, 0);
        x.drawer(3, 1, 60);
        x.knot(0, 0, 3, 9);
        x.see(0, 0, 10);
        can("20 and 40", 0, 0, 2, 20);
        x.see(0, 1, 20);
        can("40, by both", 0, 0, 1, 40);
        x.see(1, 0, 77);
        can("what is of another", 0, 0, 1, 40);
        can("the other", 1, 0, 0, NOT_ANY);
        x.knot(1, 0, 5, 9);
        can("the other, HERS would be below 0, or 127", 1, 0, 0, NOT_ANY);
        x.see(-1, 0, 0);
        x.see(1, 0, 7);
        can("the other, 43 and 57", 1, 0, 2, 43);
        can("what is of another", 0, 0, 100, 0);
        x.see(0, 0, 0);
        x.see(1, 1, 7);
        can("the other, 43 and 57 by both", 1, 0, 2, 43);
        can("30", 0, 0, 1, 30);
        seen(4, 40, 5, 0, 0);
        can("a PARTING's SHADE is HERS by lamp", 0, 0, 100, 0);
        seen(4, 40, 5, 0, 1);
        can("a PARTING by lamp, 1 OFF", 0, 0, 0, NOT_ANY);
        seen(4, 40, 5, 1, 0);
        can("a PARTING by day", 0, 0, 1, 55);
        seen(1, 40, 5, 1, 0);
        can("a FRONT by day, v 5", 0, 0, 1, 55);
        seen(2, 40, 5, 0, 0);
        can("a BACK", 0, 0, 1, 25);
        seen(5, 40, 5, 0, 1);
        can("a NAPE, 34 and 36", 0, 0, 2, 34);
        x = of(0, 5, 40);
        for (int c = 0; c < 8; c++) {
            x.knot(0, c, c, 9);
        }
        x.see(0, 0, 40);
        can("280 and eight times HERS are 40 apart", 0, 0, 2, 30);
        x.see(-1, 0, 0);
        x.see(0, 0, 41);
        can("280 and eight times HERS are never 41 apart", 0, 0, 0, NOT_ANY);
    }

    /** "CAN of a HEAD: how many numbers v (0 .. 9) likewise; the least (-5: none)." */
    private static void possible() {
        x = of(1, 5, 40);
        can("nothing is SEEN", 0, 1, 10, 0);
        seen(1, 0, 0, 1, 0);
        can("v 0", 0, 1, 1, 0);
        seen(1, 0, 0, 1, 9);
        can("v 9", 0, 1, 1, 9);
        seen(1, 0, 0, 1, 10);
        can("v would be 10", 0, 1, 0, NOT_ANY);
        seen(1, 5, 0, 1, 4);
        can("v 1 and 9", 0, 1, 2, 1);
        seen(1, 5, 0, 1, 5);
        can("v 0, it would be 10", 0, 1, 1, 0);
        seen(1, 0, 0, 0, 0);
        can("any v by lamp", 0, 1, 10, 0);
        seen(1, 0, 0, 0, 9);
        can("no v by lamp", 0, 1, 0, NOT_ANY);
        seen(0, 0, 0, 0, 10);
        Checks.theatre(x, "warm 10 v>8");
        can("v 9, by a TEST", 0, 1, 1, 9);
        x.see(-1, 0, 0);
        x.see(0, 0, 0);
        can("v 0 .. 8, by a TEST", 0, 1, 9, 0);
        seen(4, 40, 0, 0, 0);
        can("a PARTING, any v by lamp", 0, 1, 10, 0);
        seen(4, 4, 0, 1, 3);
        can("a PARTING by day, 1 and 7", 0, 1, 2, 1);
        seen(5, 10, 0, 1, 0);
        can("a NAPE, whatever v is", 0, 1, 10, 0);
        due("promise 19: its v is as it was", 5, x.of(0, 1));
        x = Edges.heads(1, 1);
        x.see(1, 1, 7);
        can("what is of another", 0, 1, 10, 0);
        can("the other", 1, 1, 0, NOT_ANY);
    }

    /** "Of a HEAD which 0 WANTED, 1 CAN: what 0 how many, 1 the least; -5. NONE." */
    private static void promise19() {
        wanted();
        possible();
        for (int no : new int[] {-1, 2, 3, MIN, MAX}) {
            if (no != 2) {
                leaves("promise 19: head " + no, NONE, x -> x.can(no, 0, 0));
                leaves("promise 19: head " + no, NONE, x -> x.can(no, 1, 1));
            }
            leaves("promise 19: which " + no, NONE, x -> x.can(0, no, 0));
            leaves("promise 19: what " + no, NONE, x -> x.can(0, 0, no));
            leaves("promise 19: what " + no, NONE, x -> x.can(0, 1, no));
        }
        // HEAD 0 of Edges.some: 16 and 26 together, SEEN 24: 9 and 33; HEAD 1: 46 by day, SEEN 4, HERS 12: no v
        leaves("promise 19: WANTED", 2, x -> x.can(0, 0, 0));
        leaves("promise 19: WANTED, the least", 9, x -> x.can(0, 0, 1));
        leaves("promise 19: CAN, none", 0, x -> x.can(1, 1, 0));
        leaves("promise 19: CAN, none", NOT_ANY, x -> x.can(1, 1, 1));
        leaves("promise 19: CAN, nothing is of it", 10, x -> x.can(2, 1, 0));
    }

    private static void odds(String what, int light, int above, int below) {
        due("promise 20: " + what + ", above the line", above, x.odds(0, light, 0));
        due("promise 20: " + what + ", below the line", below, x.odds(0, light, 1));
    }

    /** "if all its hairs out of one DRAWER, each alike likely, are out: how likely it is less OFF .. in lowest terms" */
    private static void promise20() {
        x = of(0, 5, 40);
        odds("no hair", 0, 0, 1);
        for (int d = 0; d < 8; d++) {
            x.knot(0, d, d, 9);
        }
        // 280 and 320 are 40 apart; without DRAWER d 280 - 10 d and 280 are: less by 0 .. 3, alike by 4
        odds("not less, where it is alike", 0, 1, 2);
        x.set(0, 0, 99);
        odds("all eight", 1, 1, 1);
        int[] above = {1, 1, 3, 1, 5, 3, 7, 1};
        int[] below = {8, 4, 8, 2, 8, 4, 8, 1};
        x = of(0, 5, 99);
        for (int d = 0; d < 8; d++) {
            x.knot(0, d, d, 9);
            odds("of " + (d + 1) + " DRAWERS", 0, above[d], below[d]);
        }
        x = of(0, 5, 99);
        for (int c = 0; c < 8; c++) {
            x.knot(0, c, 7, 9);
            odds("all hairs out of one DRAWER", 0, 1, 8);
        }
        x = of(1, 5, 70);
        x.knot(0, 0, 7, 9);
        odds("not OFF by lamp", 0, 0, 1);
        odds("OFF by day", 1, 1, 8);
        for (int no : new int[] {-1, 3, MIN, MAX}) {
            leaves("promise 20: head " + no, NO, x -> x.odds(no, 0, 0));
            leaves("promise 20: light " + no, NO, x -> x.odds(0, no, 0));
            leaves("promise 20: part " + no, NO, x -> x.odds(0, 0, no));
        }
        leaves("promise 20: light 2", NO, x -> x.odds(0, 2, 0));
        leaves("promise 20: part 2", NO, x -> x.odds(0, 0, 2));
        leaves("promise 20: two of eight", 1, x -> x.odds(0, 0, 0));
        leaves("promise 20: two of eight", 4, x -> x.odds(0, 0, 1));
    }

    private static void mean(String what, int light, int above, int below) {
        due("promise 21: " + what + ", above the line", above, x.mean(light, 0));
        due("promise 21: " + what + ", below the line", below, x.mean(light, 1));
    }

    /** "how much all HEADS are OFF, together, by how many they are: .. lowest terms (NO: there are none)" */
    private static void promise21() {
        x = new HairAtATime();
        for (int light = 0; light < 2; light++) {
            due("promise 21: there are none", NO, x.mean(light, 0));
            due("promise 21: there are none", NO, x.mean(light, 1));
        }
        x.head(0, 5, 30);
        mean("not OFF", 0, 0, 1);
        x.knot(0, 0, 3, 9);
        mean("not OFF", 0, 0, 1);
        x.drawer(3, 0, 34);
        mean("4 by one", 0, 4, 1);
        int[] above = {4, 2, 4, 1, 4, 2};
        int[] below = {1, 1, 3, 1, 5, 3};
        for (int p = 1; p < 6; p++) {
            x.head(0, 5, 30);
            mean("4 by " + (p + 1), 0, above[p], below[p]);
            mean("by day", 1, 0, 1);
        }
        x.shelve(0, true);
        mean("a SHELVED one too", 0, 2, 3);
        for (int no : new int[] {-1, 2, MIN, MAX}) {
            leaves("promise 21: light " + no, NO, x -> x.mean(no, 0));
            leaves("promise 21: part " + no, NO, x -> x.mean(0, no));
        }
        // 38, 34 and 59 by three
        leaves("promise 21: by lamp", 131, x -> x.mean(0, 0));
        leaves("promise 21: by lamp", 3, x -> x.mean(0, 1));
    }

    public static void main(String[] args) {
        promise13();
        promise14();
        promise15();
        promise16();
        promise17();
        promise18();
        promise19();
        promise20();
        promise21();
        EDGES.covers("promise", 13, 21);
        EDGES.end();
    }
}
