import java.util.Arrays;

/** Terms 1 (but THE TEXT), 2 and 3: each sentence that names an edge, with answers worked out by hand. */
final class TermsEdgesTest {
    private static final Edges EDGES = new Edges("TermsEdgesTest");
    private static HairAtATime x;

    private static void due(String what, long want, long got) {
        EDGES.due(what, want, got);
    }

    /** One HEAD of a KIND. */
    private static void one(int kind, int v, int hers) {
        x = new HairAtATime();
        x.head(kind, v, hers);
    }

    private static void theatre(String text) {
        due("term 1: right: " + text, 0, Checks.theatre(x, text));
    }

    // ---- term 1

    /** "DRAWERS 0 .. 7, each with a shade .. (ten times its number at first, by both), and a STOCK (.. 10 at first)" */
    private static void drawersAtFirst() {
        x = new HairAtATime();
        int[] shades = {0, 10, 20, 30, 40, 50, 60, 70};
        for (int d = 0; d < 8; d++) {
            due("term 1: STOCK at first", 10, x.told(10 + d));
            due("term 1: shade by lamp at first", shades[d], x.told(20 + d));
            due("term 1: shade by day at first", shades[d], x.told(30 + d));
        }
        due("term 1: no DRAWER 8", -1, x.told(18));
        due("term 1: FALLEN at first", 0, x.told(2));
        due("term 1: NIGHT at first", 0, x.told(0));
    }

    /** "a DUE (.. 30 at first), SHELVED, or not (not at first), CELLS 0 .. 7, each with a hair .. or none (none at first)" */
    private static void headsAtFirst() {
        one(6, 9, 99);
        due("term 1: DUE at first", 30, x.of(0, 3));
        due("term 1: not SHELVED at first", 0, x.of(0, 4));
        for (int c = 0; c < 8; c++) {
            due("term 1: no hair at first", -5, x.of(0, 10 + c));
            due("term 1: not TIGHT at first", 0, x.of(0, 20 + c));
        }
        due("term 1: no CELL 8", -10001, x.of(0, 18));
        for (int part = 0; part < 4; part++) {
            due("term 1: ROW 0 at first", 0, x.row(0, part, 9));
        }
    }

    /** "a DUE (.. behind how many nights from now, whenever that is asked)" */
    private static void dueIsFromNow() {
        one(0, 0, 0);
        x.set(0, 1, 8);
        due("term 1: eight hairs in 8 nights", 1, x.inTime(1));
        x.pass(60);
        due("term 1: DUE is as it was", 8, x.of(0, 3));
        due("term 1: eight hairs in 8 nights from now", 1, x.inTime(1));
        x.set(0, 1, 7);
        due("term 1: eight hairs, not in 7", 0, x.inTime(1));
    }

    /** "1 FRONT, 2 BACK, 3 OLD under HEAD; 4 PARTING under FRONT; 5 NAPE under BACK; 6 TOLD under OLD" */
    private static void kinds() {
        int[][] under = {{0}, {0, 1}, {0, 2}, {0, 3}, {0, 1, 4}, {0, 2, 5}, {0, 3, 6}};
        for (int kind = 0; kind < 7; kind++) {
            one(kind, 0, 0);
            for (int k = 0; k < 7; k++) {
                int asked = k;
                boolean is = Arrays.stream(under[kind]).anyMatch(of -> of == asked);
                due("term 1: KIND " + kind + " for " + k, is ? kind : -12, x.taken(0, k));
            }
        }
    }

    /** "BACK: the half (cut toward 0) of SUM. .. NAPE: as BACK, and 10." HEAD and FRONT beside them. */
    private static void halves() {
        int[] sums = {-3, -2, -1, 0, 1, 2, 3, 98, 99};
        int[] halves = {-1, -1, 0, 0, 0, 1, 1, 49, 49};
        x = Edges.heads(0, 1, 2, 5);
        for (int i = 0; i < sums.length; i++) {
            x.drawer(0, 0, Math.max(0, sums[i]));
            x.drawer(0, 1, Math.max(0, sums[i]));
            if (sums[i] < 0) {
                Checks.theatre(x, "cool " + -sums[i] + " p<9");
            } else if (sums[i] == 0) {
                Checks.theatre(x, "cool 0 p<9");
            }
            due("term 1: HEAD", sums[i], x.shade(0, 0, 0));
            due("term 1: FRONT by lamp", sums[i], x.shade(1, 0, 0));
            due("term 1: FRONT by day", sums[i] + 5, x.shade(1, 0, 1));
            due("term 1: BACK by lamp", halves[i], x.shade(2, 0, 0));
            due("term 1: BACK by day", halves[i], x.shade(2, 0, 1));
            due("term 1: NAPE by lamp", halves[i] + 10, x.shade(3, 0, 0));
            due("term 1: NAPE by day", halves[i] + 10, x.shade(3, 0, 1));
        }
    }

    /** "FRONT: SUM; v more, by day. .. PARTING: as FRONT; HERS, by lamp." */
    private static void fronts() {
        for (int v : new int[] {0, 1, 9}) {
            one(1, v, 99);
            due("term 1: FRONT by lamp, v " + v, 70, x.shade(0, 7, 0));
            due("term 1: FRONT by day, v " + v, 70 + v, x.shade(0, 7, 1));
            for (int hers : new int[] {0, 1, 99}) {
                one(4, v, hers);
                due("term 1: PARTING by lamp, HERS " + hers, hers, x.shade(0, 7, 0));
                due("term 1: PARTING by day, v " + v, 70 + v, x.shade(0, 7, 1));
            }
        }
        one(4, 5, 30);
        theatre("cool 99 p<9");
        due("term 1: PARTING by lamp, whatever is cool", 30, x.shade(0, 7, 0));
        due("term 1: PARTING by day, below 0", -24, x.shade(0, 7, 1));
        x.set(0, 0, 31);
        due("term 1: PARTING by lamp, HERS as it is now", 31, x.shade(0, 7, 0));
    }

    /** "OLD: SUM, less NIGHT (20 at most). .. TOLD: as OLD, and its ROW (..; 0 at first) at DRAWER modulo 4 more." */
    private static void oldOnes() {
        int[] nights = {0, 1, 19, 20, 21, 60};
        int[] less = {0, 1, 19, 20, 20, 20};
        for (int i = 0; i < nights.length; i++) {
            x = Edges.heads(3, 6, 0);
            x.row(1, 2, 9);
            x.pass(nights[i]);
            due("term 1: OLD by lamp, NIGHT " + nights[i], 20 - less[i], x.shade(0, 2, 0));
            due("term 1: OLD by day, NIGHT " + nights[i], -less[i], x.shade(0, 0, 1));
            due("term 1: TOLD, NIGHT " + nights[i], 20 - less[i] + 9, x.shade(1, 2, 0));
            due("term 1: TOLD, ROW 0 at first", 30 - less[i], x.shade(1, 3, 1));
            due("term 1: HEAD, NIGHT " + nights[i], 20, x.shade(2, 2, 0));
        }
        x = Edges.late(0);
        due("term 1: OLD by NIGHT 9999", 50, x.shade(1, 7, 0));
        one(6, 0, 0);
        for (int part = 0; part < 4; part++) {
            x.row(0, part, part + 1);
        }
        int[] shades = {1, 12, 23, 34, 41, 52, 63, 74};
        for (int d = 0; d < 8; d++) {
            due("term 1: TOLD by DRAWER " + d, shades[d], x.shade(0, d, 0));
            due("term 1: TOLD by DRAWER " + d, shades[d], x.shade(0, d, 1));
        }
    }

    /** "OFF ..: how much the SHADES of all its hairs, together, and HERS as often .. are apart (0, if it has none)." */
    private static void off() {
        one(0, 0, 99);
        due("term 1: OFF without hair", 0, x.of(0, 6));
        due("term 1: OFF without hair", 0, x.of(0, 7));
        x.knot(0, 0, 0, 9);
        due("term 1: OFF of one", 99, x.of(0, 6));
        x.drawer(0, 0, 99);
        due("term 1: not OFF by lamp", 0, x.of(0, 6));
        due("term 1: OFF by day", 99, x.of(0, 7));
        x.set(0, 0, 98);
        due("term 1: 1 OFF, above", 1, x.of(0, 6));
        x.drawer(0, 0, 97);
        due("term 1: 1 OFF, below", 1, x.of(0, 6));
        one(0, 0, 99);
        for (int c = 0; c < 8; c++) {
            x.knot(0, c, 0, 9);
        }
        due("term 1: OFF of eight", 792, x.of(0, 6));
        theatre("cool 99 l=1");
        due("term 1: OFF of eight, SHADES below 0", 1584, x.of(0, 7));
        one(0, 0, 35);
        x.knot(0, 0, 3, 9);
        x.knot(0, 7, 4, 9);
        due("term 1: together, not each by itself", 0, x.of(0, 6));
    }

    /** One HEAD, TIGHT 1 .. 8 in CELLS 0 .. 7, behind one NIGHT. */
    private static void tightBehind(String text, int night, int... tight) {
        one(0, 0, 0);
        x.pass(night);
        theatre(text);
        int hairs = 8;
        for (int c = 0; c < 8; c++) {
            x.knot(0, c, c, c + 1);
        }
        due("term 1: NIGHT is 1 more", night + 1, x.pass(1));
        for (int c = 0; c < 8; c++) {
            due("term 1: TIGHT behind a NIGHT, " + text + ", NIGHT " + night, tight[c], x.of(0, 20 + c));
            due("term 1: the hair in a CELL", tight[c] == 0 ? -5 : c, x.of(0, 10 + c));
            hairs -= tight[c] == 0 ? 1 : 0;
        }
        due("term 1: FALLEN is 1 more for each", 8 - hairs, x.told(2));
        due("term 1: how many hairs", hairs, x.told(3));
        due("term 1: it is not back in the DRAWER", 9, x.told(10));
    }

    /** "1 less TIGHT, 2 if RAIN is above 0 and NIGHT a multiple of RAIN; if that is 0 then, or less, it falls out" */
    private static void aNight() {
        int[] dry = {0, 1, 2, 3, 4, 5, 6, 7};
        int[] wet = {0, 0, 1, 2, 3, 4, 5, 6};
        tightBehind("warm 1 p<9", 0, dry);
        tightBehind("rain 0", 0, dry);
        tightBehind("rain 0", 10, dry);
        tightBehind("rain 1", 0, wet);
        tightBehind("rain 1", 59, wet);
        tightBehind("rain 99", 0, wet);
        tightBehind("rain 99", 1, dry);
        tightBehind("rain 7", 6, dry);
        tightBehind("rain 7", 7, wet);
        tightBehind("rain 7", 8, dry);
        tightBehind("rain 7", 49, wet);
        tightBehind("rain 60", 30, dry);
        tightBehind("rain 60", 60, wet);
        one(0, 0, 0);
        x.pass(60);
        x.pass(38);
        theatre("rain 99");
        x.knot(0, 0, 0, 9);
        int[] tight = {8, 6, 5};
        for (int i = 0; i < 3; i++) {
            x.pass(1);
            due("term 1: RAIN 99, behind NIGHT " + (98 + i), tight[i], x.of(0, 20));
        }
    }

    /** "each hair of each HEAD that is not SHELVED" */
    private static void shelvedByNight() {
        x = Edges.heads(0, 0);
        x.knot(0, 0, 1, 1);
        x.knot(1, 0, 1, 1);
        x.shelve(0, true);
        x.pass(60);
        due("term 1: a SHELVED one keeps it", 1, x.of(0, 20));
        due("term 1: the other one does not", 0, x.of(1, 20));
        due("term 1: FALLEN", 1, x.told(2));
        x.shelve(0, false);
        x.pass(1);
        due("term 1: not SHELVED any more", 0, x.of(0, 20));
        due("term 1: FALLEN", 2, x.told(2));
    }

    /** "FALLEN: 0 .. 9999": each hair is knotted by a call, so that 512 calls do not lead to its bound. */
    private static void manyFallen() {
        one(0, 0, 0);
        for (int d = 0; d < 8; d++) {
            x.drawer(d, 2, 99);
        }
        for (int night = 0; night < 50; night++) {
            for (int c = 0; c < 8; c++) {
                x.knot(0, c, c, 1);
            }
            x.pass(1);
        }
        due("term 1: FALLEN of 50 times 8", 400, x.told(2));
        due("term 1: STOCK then", 49, x.told(17));
        due("term 1: NIGHT then", 50, x.told(0));
    }

    // ---- term 2

    /** "All that follows is asked, goes on from how all is (NIGHTS .. beyond 9999, too), and changes nothing." */
    private static void beyond9999() {
        x = Edges.late(0);
        x.shelve(0, false);
        x.knot(1, 0, 7, 4);
        Checks.theatre(x, "rain 50;warm 9 n=0");
        // NIGHT 9999 is dry; 10000 is wet, and its last figure is 0
        due("term 2: hairs on 0 NIGHTS", 1, x.on(0, 11));
        due("term 2: OFF at NIGHT 9999", 10, x.on(0, 21));
        due("term 2: hairs on 1 NIGHT", 1, x.on(1, 11));
        due("term 2: OFF at NIGHT 10000", 19, x.on(1, 21));
        due("term 2: OFF at NIGHT 10001", 10, x.on(2, 31));
        due("term 2: hairs on 2 NIGHTS", 1, x.on(2, 11));
        due("term 2: hairs on 3 NIGHTS", 0, x.on(3, 11));
        due("term 2: FALLEN on 3 NIGHTS", 1, x.on(3, 0));
        due("term 2: FALLEN on 60 NIGHTS", 2, x.on(60, 0));
        due("term 2: BALD", 3, x.of(1, 8));
        due("term 2: BALD", 8, x.of(0, 8));
        for (int i = 0; i < 3; i++) {
            x.plan(0, 0);
            due("term 2: ENDS behind " + (i + 1) + " NIGHTS", i < 2 ? 0 : 1, x.ends(0));
        }
        due("term 2: NIGHT stays", 9999, x.told(0));
        due("term 2: hairs stay", 2, x.told(3));
    }

    /** "BALD of a HEAD: the fewest NIGHTS (0 .. 60) behind which it has no hair (-5: not by then)." */
    private static void bald() {
        one(0, 0, 0);
        due("term 2: BALD without hair", 0, x.of(0, 8));
        x.shelve(0, true);
        due("term 2: BALD without hair, SHELVED", 0, x.of(0, 8));
        x.knot(0, 3, 1, 1);
        due("term 2: not BALD while it is SHELVED", -5, x.of(0, 8));
        x.shelve(0, false);
        due("term 2: BALD of 1 TIGHT", 1, x.of(0, 8));
        x.knot(0, 4, 1, 9);
        due("term 2: BALD of 9 TIGHT", 9, x.of(0, 8));
        theatre("rain 1");
        due("term 2: BALD of 9 TIGHT, by rain", 5, x.of(0, 8));
        // TIGHT 4 by RAIN 4: 2 1 0; 3 2 1 below 0; 3 2 0; 3 1 0
        int[] bald = {3, 4, 3, 3};
        for (int night = 0; night < 4; night++) {
            one(0, 0, 0);
            x.pass(night);
            theatre("rain 4");
            x.knot(0, 0, 0, 4);
            due("term 2: BALD from NIGHT " + night, bald[night], x.of(0, 8));
        }
    }

    public static void main(String[] args) {
        drawersAtFirst();
        headsAtFirst();
        dueIsFromNow();
        kinds();
        halves();
        fronts();
        oldOnes();
        off();
        aNight();
        shelvedByNight();
        manyFallen();
        beyond9999();
        bald();
        EDGES.covers("term", 1, 2);
        EDGES.end();
    }
}
