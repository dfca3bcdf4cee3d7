/** Each promise of the document by itself, with answers worked out by hand. */
final class PromisesTest {
    private static final int MIN = Integer.MIN_VALUE, MAX = Integer.MAX_VALUE;
    private static final long NO = Long.MIN_VALUE;
    private static final Checks CHECKS = new Checks("PromisesTest");
    private static HairAtATime x;

    private static void due(String call, long want, long got) {
        CHECKS.due("promise " + call, want, got);
    }

    /** A new object with HEADS of these KINDS, v 5, HERS 40. */
    private static void heads(int... kinds) {
        x = new HairAtATime();
        for (int kind : kinds) {
            x.head(kind, 5, 40);
        }
    }

    private static int theatre(String text) {
        return Checks.theatre(x, text);
    }

    private static void promise1() {
        x = new HairAtATime();
        for (int what = 0; what < 7; what++) {
            due("1 count(" + what + ")", 0, x.count(what));
        }
        for (int d = 0; d < 8; d++) {
            due("1 stock", 10, x.told(10 + d));
            due("1 by lamp", 10 * d, x.told(20 + d));
            due("1 by day", 10 * d, x.told(30 + d));
            due("1 no tape", NO, x.read(d, 0));
        }
        due("1 night", 0, x.told(0));
        due("1 rain", 0, x.told(1));
        due("1 fallen", 0, x.told(2));
        due("1 no image", -3, x.undo());
        due("1 NO", NO, HairAtATime.NO);
        due("1 NONE", -1, HairAtATime.NONE);
        due("1 BAD", -2, HairAtATime.BAD);
        due("1 STATE", -3, HairAtATime.STATE);
        due("1 FULL", -4, HairAtATime.FULL);
    }

    private static void promise2() {
        x = new HairAtATime();
        due("2 below the kinds", -1, x.head(-1, 0, 0));
        due("2 above the kinds", -1, x.head(7, 10, 100));
        due("2 kind", -1, x.head(MIN, 0, 0));
        due("2 v", -2, x.head(0, -1, 0));
        due("2 v", -2, x.head(0, 10, 0));
        due("2 hers", -2, x.head(0, 0, -1));
        due("2 hers", -2, x.head(0, 0, 100));
        due("2 nothing came", 0, x.count(0));
        for (int i = 0; i < 6; i++) {
            due("2 head", i, x.head(i + 1, 9 - i, 99 - i));
        }
        due("2 full", -4, x.head(0, 0, 0));
        due("2 bad ahead of full", -2, x.head(0, 0, 100));
        due("2 none ahead of full", -1, x.head(7, 0, 0));
        due("2 kind", 6, x.of(5, 0));
        due("2 v", 4, x.of(5, 1));
        due("2 hers", 94, x.of(5, 2));
        due("2 due", 30, x.of(5, 3));
        due("2 shelved", 0, x.of(5, 4));
        due("2 hairs", 0, x.of(5, 5));
    }

    private static void promise3() {
        heads(0, 1);
        x.knot(0, 0, 1, 9);
        x.knot(0, 7, 6, 2);
        int[] answers = {0, 5, 40, 30, 0, 2, 10, 10, 9, 4, 1, -5, -5, -5, -5, -5, -5, 6};
        for (int what = 0; what < answers.length; what++) {
            due("3 of(0, " + what + ")", answers[what], x.of(0, what));
        }
        due("3 tight", 9, x.of(0, 20));
        due("3 tight", 0, x.of(0, 21));
        due("3 tight", 2, x.of(0, 27));
        for (int what : new int[] {-1, 18, 19, 28, 30, MIN, MAX}) {
            due("3 of(0, " + what + ")", -10001, x.of(0, what));
        }
        due("3 no head", -10001, x.of(2, 0));
        due("3 no head", -10001, x.of(-1, 0));
        due("3 no head", -10001, x.of(MAX, MAX));
        x.shelve(0, true);
        due("3 shelved", 1, x.of(0, 4));
        due("3 a shelved one is never bald", -5, x.of(0, 8));
        due("3 bald now", 0, x.of(1, 8));
        near();
    }

    private static void near() {
        heads(0);
        x.drawer(4, 2, 0);
        due("3 near: the first of two", 3, x.of(0, 9));
        x.drawer(3, 1, 80);
        due("3 near: the greater of both lights", 5, x.of(0, 9));
        for (int d = 0; d < 8; d++) {
            x.drawer(d, 2, 0);
        }
        due("3 near: no stock", -5, x.of(0, 9));
        x.drawer(7, 2, 1);
        due("3 near: the one that there is", 7, x.of(0, 9));
    }

    private static void promise4() {
        heads(0, 1, 2, 3, 4, 5);
        due("4 head", 70, x.shade(0, 7, 0));
        due("4 front by lamp", 70, x.shade(1, 7, 0));
        due("4 front by day", 75, x.shade(1, 7, 1));
        due("4 back", 35, x.shade(2, 7, 1));
        due("4 old", 70, x.shade(3, 7, 0));
        due("4 parting by lamp: hers", 40, x.shade(4, 7, 0));
        due("4 parting by day", 75, x.shade(4, 7, 1));
        due("4 nape", 45, x.shade(5, 7, 0));
        due("4 theatre", 0, theatre("cool 93 p<9"));
        due("4 below 0", -23, x.shade(0, 7, 0));
        due("4 half, cut toward 0", -11, x.shade(2, 7, 0));
        due("4 half, cut toward 0, and 10", -1, x.shade(5, 7, 0));
        x.pass(19);
        due("4 old", -23 - 19, x.shade(3, 7, 0));
        x.pass(1);
        due("4 old", -23 - 20, x.shade(3, 7, 0));
        x.pass(1);
        due("4 old, 20 at most", -23 - 20, x.shade(3, 7, 0));
        due("4 no head", -10001, x.shade(6, 0, 0));
        due("4 no drawer", -10001, x.shade(0, 8, 0));
        due("4 no drawer", -10001, x.shade(0, -1, 0));
        due("4 no light", -10001, x.shade(0, 0, 2));
        due("4 no light", -10001, x.shade(0, 0, -1));
        told();
        letters();
    }

    private static void told() {
        heads(6);
        x.row(0, 0, 7);
        x.row(0, 3, 2);
        x.pass(3);
        due("4 told", 0 - 3 + 7, x.shade(0, 0, 0));
        due("4 told", 10 - 3, x.shade(0, 1, 0));
        due("4 told", 40 - 3 + 7, x.shade(0, 4, 1));
        due("4 told", 70 - 3 + 2, x.shade(0, 7, 1));
    }

    private static void letters() {
        heads(0, 1);
        due("4 p", 0, theatre("warm 1 p=1;warm 2 k>0;warm 4 v<6;warm 8 c=3;warm 16 l=1;warm 32 n>0&n<3"));
        due("4 of letters", 30 + 4 + 8, x.shade(0, 3, 0));
        due("4 of letters", 30 + 1 + 2 + 4 + 8, x.shade(1, 3, 0));
        due("4 of letters", 20 + 1 + 2 + 4 + 16 + 5, x.shade(1, 2, 1));
        x.pass(11);
        due("4 n is night modulo 10", 20 + 1 + 2 + 4 + 32, x.shade(1, 2, 0));
        due("4 or, and, not", 1, theatre("warm 50 l=0|l=1&c=5;cool 7 !(c=5|c=6)&!p=1"));
        due("4 & ahead of |", 50 + 50, x.shade(1, 5, 0));
        due("4 & ahead of |", 50 + 50 + 5, x.shade(1, 5, 1));
        due("4 & ahead of |", 40 + 5, x.shade(1, 4, 1));
        due("4 not", 40 + 50 - 7, x.shade(0, 4, 0));
        due("4 not", 60 + 50, x.shade(0, 6, 0));
    }

    private static void promise5() {
        heads(0);
        due("5 hers", 40, x.set(0, 0, 99));
        due("5 hers", 99, x.set(0, 0, 0));
        due("5 due", 30, x.set(0, 1, 0));
        due("5 due", 0, x.set(0, 1, 30));
        due("5 bad", -2, x.set(0, 0, 100));
        due("5 bad", -2, x.set(0, 0, -1));
        due("5 bad", -2, x.set(0, 1, 31));
        due("5 bad", -2, x.set(0, 1, -1));
        due("5 none", -1, x.set(1, 0, 100));
        due("5 none", -1, x.set(0, 2, 100));
        due("5 none", -1, x.set(0, -1, 0));
        due("5 as it was", 0, x.of(0, 2));
        due("5 as it was", 30, x.of(0, 3));
    }

    private static void promise6() {
        heads(0);
        due("6 lamp", 30, x.drawer(3, 0, 99));
        due("6 day", 30, x.drawer(3, 1, 0));
        due("6 stock", 10, x.drawer(3, 2, 1));
        due("6 bad", -2, x.drawer(3, 2, 100));
        due("6 bad", -2, x.drawer(3, 0, -1));
        due("6 none", -1, x.drawer(8, 0, 100));
        due("6 none", -1, x.drawer(-1, 0, 0));
        due("6 none", -1, x.drawer(0, 3, 100));
        due("6 none", -1, x.drawer(0, MIN, 0));
        due("6 lamp", 99, x.shade(0, 3, 0));
        due("6 day", 0, x.shade(0, 3, 1));
        due("6 stock", 1, x.told(13));
    }

    private static void promise7() {
        heads(0);
        x.drawer(2, 2, 1);
        due("7 tight", -2, x.knot(0, 0, 2, 0));
        due("7 tight", -2, x.knot(0, 0, 2, 10));
        due("7 stock", 0, x.knot(0, 0, 2, 9));
        due("7 no stock", -4, x.knot(0, 1, 2, 1));
        due("7 there is one, ahead of no stock", -3, x.knot(0, 0, 2, 1));
        due("7 bad ahead of state", -2, x.knot(0, 0, 2, 0));
        due("7 stock", 9, x.knot(0, 7, 3, 1));
        due("7 no head", -1, x.knot(1, 0, 0, 0));
        due("7 no cell", -1, x.knot(0, 8, 0, 0));
        due("7 no cell", -1, x.knot(0, -1, 0, 1));
        due("7 no drawer", -1, x.knot(0, 1, 8, 0));
        due("7 hairs", 2, x.of(0, 5));
        due("7 stock", 10, x.told(10));
    }

    private static void promise8() {
        heads(0);
        due("8 shelve", 0, x.shelve(0, true));
        due("8 shelve", 1, x.shelve(0, true));
        due("8 shelve", 1, x.shelve(0, false));
        due("8 shelve", 0, x.of(0, 4));
        due("8 none", -1, x.shelve(1, true));
        due("8 none", -1, x.shelve(-1, true));
    }

    private static void promise9() {
        heads(6, 3);
        due("9 row", 0, x.row(0, 3, 9));
        due("9 row", 9, x.row(0, 3, 0));
        due("9 bad", -2, x.row(0, 3, 10));
        due("9 bad ahead of state", -2, x.row(1, 3, -1));
        due("9 state", -3, x.row(1, 3, 1));
        due("9 none", -1, x.row(2, 0, 10));
        due("9 none", -1, x.row(1, 4, 10));
        due("9 none", -1, x.row(0, -1, 1));
    }

    private static void promise10() {
        x = new HairAtATime();
        due("10 bad", -2, x.feed(-1));
        due("10 bad", -2, x.feed(128));
        for (int i = 1; i <= 100; i++) {
            due("10 feed", i, x.feed(i % 2 == 0 ? 0 : 127));
        }
        due("10 full", -4, x.feed(32));
        due("10 bad ahead of full", -2, x.feed(MAX));
        due("10 as it was", 100, x.count(5));
    }

    private static void promise11() {
        x = new HairAtATime();
        due("11 empty", -10, x.theatre());
        String[] texts = {"w", "xarm 1 p=1", "rain", "rain ", "rain x", "rain 1 ", "rain 12", "rain 123", "warm1",
            "warm  1 p=1", "warm 1p=1", "warm 1 P=1", "warm 1 p1", "warm 1 p=", "warm 1 p=123", "warm 1 p=1&",
            "warm 1 (p=1", "warm 1 p=1)", "warm 1 (p=1))", "warm 1 !!!!p=1", "warm 1 !!!!!p=1", "warm 1 !!(!(!p=1))",
            "warm 1 p=1|", "warm 1 p=1;", "warm 1 p=1 ;rain 1", "warm 1 ()", "warm 1 p=1|!p=2&(k=3)"};
        int[] faults = {1, 0, 4, 5, 5, 6, -1, 7, 4, 5, 6, 7, 8, 9, 11, 11, 11, 10, 12, -1, 11, 11, 11, 11, 10, 8, -1};
        for (int i = 0; i < texts.length; i++) {
            x = new HairAtATime();
            due("11 " + texts[i], faults[i] < 0 ? 0 : -10 - faults[i], theatre(texts[i]));
            due("11 the text is empty then", 0, x.count(5));
            due("11 how many", faults[i] < 0 ? 1 : 0, x.count(1));
        }
        x = new HairAtATime();
        String ten = "rain 1;".repeat(9);
        due("11 ten clauses", 0, theatre(ten + "rain 7"));
        due("11 the last one's rain", 7, x.told(1));
        due("11 the eleventh", -79, theatre(ten + "rain 1;rain 1"));
        due("11 the one that held holds", 7, x.told(1));
        due("11 100 bytes that end too early", -110, theatre("warm 1 " + "p=1|".repeat(22) + "p=10|"));
        for (int i = 1; i < 6; i++) {
            due("11 number", i, theatre("rain " + i));
            due("11 holds", i, x.told(1));
        }
        due("11 full", -4, theatre("rain"));
        due("11 the text stays", 4, x.count(5));
        due("11 how many", 6, x.count(1));
    }

    private static void promise12() {
        heads(0, 0);
        x.knot(0, 0, 1, 1);
        x.knot(1, 0, 1, 2);
        x.knot(1, 1, 1, 2);
        x.drawer(7, 0, 5);
        x.drawer(7, 1, 6);
        due("12 rain", 0, theatre("rain 12;warm 1 p=1"));
        due("12 told", 3, x.told(3));
        due("12 told", 12, x.told(1));
        x.pass(1);
        due("12 night", 1, x.told(0));
        due("12 all fell, by rain", 3, x.told(2));
        due("12 hairs", 0, x.told(3));
        due("12 stock", 7, x.told(11));
        due("12 lamp", 5, x.told(27));
        due("12 day", 6, x.told(37));
        for (int what : new int[] {-1, 4, 9, 18, 19, 28, 29, 38, MIN, MAX}) {
            due("12 none", -1, x.told(what));
        }
    }

    private static void promise13() {
        heads(0, 0);
        x.knot(0, 0, 1, 3);
        x.knot(1, 0, 1, 3);
        x.shelve(1, true);
        due("13 bad", -2, x.pass(-1));
        due("13 bad", -2, x.pass(61));
        due("13 none go", 0, x.pass(0));
        due("13 pass", 2, x.pass(2));
        due("13 tight", 1, x.of(0, 20));
        due("13 shelved", 3, x.of(1, 20));
        due("13 pass", 3, x.pass(1));
        due("13 fell", -5, x.of(0, 10));
        due("13 fell", 0, x.of(0, 20));
        due("13 fallen", 1, x.told(2));
        theatre("rain 4");
        x.shelve(1, false);
        x.pass(1);
        due("13 no rain on night 3", 2, x.of(1, 20));
        x.pass(1);
        due("13 rain on night 4", 0, x.of(1, 20));
        due("13 fallen", 2, x.told(2));
        for (int night = 65; night <= 9965; night += 60) {
            due("13 pass", night, x.pass(60));
        }
        due("13 state", -3, x.pass(35));
        due("13 bad ahead of state", -2, x.pass(61));
        due("13 the last", 9999, x.pass(34));
        due("13 state", -3, x.pass(1));
        due("13 none go", 9999, x.pass(0));
        due("13 asked beyond the last", 0, x.on(60, 20));
    }

    private static void promise14() {
        heads(3, 1);
        x.knot(0, 0, 4, 3);
        x.knot(0, 1, 4, 9);
        x.knot(1, 0, 2, 1);
        due("14 fallen", 0, x.on(0, 0));
        due("14 fallen", 1, x.on(1, 0));
        due("14 fallen", 2, x.on(3, 0));
        due("14 fallen", 3, x.on(60, 0));
        due("14 hairs", 2, x.on(2, 10));
        due("14 hairs", 1, x.on(3, 10));
        due("14 off by lamp", 4, x.on(2, 20));
        due("14 off by day", 3, x.on(3, 30));
        due("14 off of a front by lamp", 20, x.on(0, 21));
        due("14 off of a front by day", 15, x.on(0, 31));
        due("14 none left", 0, x.on(1, 31));
        for (int what : new int[] {-1, 1, 9, 12, 16, 19, 22, 32, 40, 41, MIN, MAX}) {
            due("14 none", -1, x.on(61, what));
        }
        due("14 bad", -2, x.on(61, 10));
        due("14 bad", -2, x.on(-1, 0));
        due("14 changed nothing", 0, x.told(0));
        due("14 changed nothing", 3, x.told(3));
    }

    private static void promise15() {
        heads(0, 4);
        x.set(0, 0, 34);
        due("15 apart", 4, x.mix(0, 0, 1, -1));
        due("15 first", 3, x.mix(0, 0, 1, 0));
        due("15 beyond the row", -5, x.mix(0, 0, 1, 1));
        due("15 apart", 2, x.mix(0, 0, 2, -1));
        due("15 first as a row", 0, x.mix(0, 0, 2, 0));
        due("15 first as a row", 7, x.mix(0, 0, 2, 1));
        x.drawer(0, 2, 0);
        due("15 without the first", 1, x.mix(0, 0, 2, 0));
        due("15 without the first", 6, x.mix(0, 0, 2, 1));
        due("15 hers by lamp", 0, x.mix(1, 0, 4, -1));
        due("15 hers by lamp", 1, x.mix(1, 0, 4, 3));
        x.drawer(1, 2, 3);
        due("15 as often as the stock has", 1, x.mix(1, 0, 4, 2));
        due("15 as often as the stock has", 2, x.mix(1, 0, 4, 3));
        due("15 none", -1, x.mix(2, 0, 5, 0));
        due("15 none", -1, x.mix(0, 2, 5, 0));
        due("15 none", -1, x.mix(0, 0, 5, 4));
        due("15 none", -1, x.mix(0, 0, 5, -2));
        due("15 bad", -2, x.mix(0, 0, 0, 0));
        due("15 bad", -2, x.mix(0, 0, 5, 0));
        for (int d = 1; d < 8; d++) {
            x.drawer(d, 2, d == 6 ? 3 : 0);
        }
        due("15 the only row", 18 * 4 + 6, x.mix(0, 0, 3, -1));
        due("15 the only row", 6, x.mix(0, 0, 3, 2));
        due("15 no such row", -5, x.mix(0, 0, 4, -1));
        due("15 no such row", -5, x.mix(0, 0, 4, 0));
    }

    private static void promise16() {
        heads(0, 0, 0);
        due("16 bad", -2, x.inTime(0));
        due("16 bad", -2, x.inTime(10));
        x.set(0, 1, 8);
        x.set(1, 1, 8);
        x.set(2, 1, 15);
        due("16 one a night", 1, x.inTime(1));
        x.set(2, 1, 16);
        due("16 one a night", 5, x.inTime(1));
        x.set(0, 1, 5);
        due("16 whole nights", 6, x.inTime(1));
        due("16 whole nights", 7, x.inTime(3));
        x.set(0, 1, 0);
        due("16 not begun", 6, x.inTime(9));
        for (int c = 0; c < 8; c++) {
            x.knot(0, c, c, 1);
        }
        due("16 full", 7, x.inTime(9));
        due("16 changed nothing", 8, x.told(3));
        x.set(1, 1, 0);
        x.shelve(2, true);
        due("16 a shelved one too", 5, x.inTime(8));
    }

    private static void promise17() {
        heads(0);
        for (int i = 1; i <= 5; i++) {
            due("17 see", i, x.see(0, i % 2, i == 1 ? 9999 : 0));
        }
        due("17 full", -4, x.see(0, 0, 0));
        due("17 bad ahead of full", -2, x.see(0, 0, 10000));
        due("17 bad", -2, x.see(0, 0, -1));
        due("17 none", -1, x.see(1, 0, -1));
        due("17 none", -1, x.see(-2, 0, -1));
        due("17 none", -1, x.see(0, 2, -1));
        due("17 count", 5, x.count(2));
        due("17 none then", 0, x.see(-1, 7, -7));
        due("17 count", 0, x.count(2));
        due("17 see", 1, x.see(0, 0, 0));
    }

    private static void promise18() {
        heads(0, 1);
        x.knot(0, 0, 3, 2);
        x.knot(1, 0, 3, 9);
        due("18 all are", -5, x.wrong());
        x.see(0, 0, 10);
        x.see(1, 1, 5);
        due("18 all are", -5, x.wrong());
        x.see(1, 0, 5);
        x.see(0, 1, 9);
        due("18 the first", 2, x.wrong());
        x.pass(2);
        due("18 as it is now", 0, x.wrong());
    }

    private static void promise19() {
        heads(0, 1, 4);
        due("19 all", 100, x.can(0, 0, 0));
        due("19 the least", 0, x.can(0, 0, 1));
        due("19 all", 10, x.can(0, 1, 0));
        x.knot(0, 0, 3, 2);
        x.knot(0, 1, 4, 2);
        x.knot(1, 0, 3, 9);
        x.knot(2, 0, 3, 9);
        x.see(0, 0, 10);
        due("19 two hers", 2, x.can(0, 0, 0));
        due("19 the least hers", 30, x.can(0, 0, 1));
        due("19 any v", 10, x.can(0, 1, 0));
        x.see(1, 1, 6);
        due("19 one v", 1, x.can(1, 1, 0));
        due("19 the v", 4, x.can(1, 1, 1));
        due("19 hers", 2, x.can(1, 0, 0));
        due("19 hers", 35 - 6, x.can(1, 0, 1));
        x.see(2, 0, 0);
        due("19 hers by lamp is what it is", 100, x.can(2, 0, 0));
        x.see(2, 0, 1);
        due("19 none", 0, x.can(2, 0, 0));
        due("19 none", -5, x.can(2, 0, 1));
        due("19 none", 0, x.can(2, 1, 0));
        due("19 none", -5, x.can(2, 1, 1));
        due("19 by the clauses", 0, theatre("warm 10 v>6"));
        x.see(-1, 0, 0);
        x.see(0, 0, 10);
        due("19 by the clauses", 10, x.can(0, 1, 0));
        x.set(0, 0, 30);
        due("19 by the clauses", 7, x.can(0, 1, 0));
        due("19 by the clauses", 0, x.can(0, 1, 1));
        due("19 no head", -1, x.can(3, 0, 0));
        due("19 no which", -1, x.can(0, 2, 0));
        due("19 no what", -1, x.can(0, 0, 2));
        due("19 no what", -1, x.can(0, 0, -1));
        due("19 changed nothing", 5, x.of(0, 1));
    }

    private static void promise20() {
        heads(0);
        due("20 no hair", 0, x.odds(0, 0, 0));
        due("20 no hair", 1, x.odds(0, 0, 1));
        x.knot(0, 0, 5, 1);
        due("20 one of eight", 1, x.odds(0, 0, 0));
        due("20 one of eight", 8, x.odds(0, 0, 1));
        x.knot(0, 1, 6, 1);
        due("20 two of eight", 1, x.odds(0, 1, 0));
        due("20 two of eight", 4, x.odds(0, 1, 1));
        x.knot(0, 2, 1, 1);
        x.knot(0, 3, 5, 1);
        // 10, 20, -30, 10 together: 10; without drawer 1: 40; without 5: 10 the other way; without 6: 10
        due("20 none less", 0, x.odds(0, 0, 0));
        due("20 none less", 1, x.odds(0, 0, 1));
        due("20 head", NO, x.odds(1, 0, 0));
        due("20 light", NO, x.odds(0, 2, 0));
        due("20 part", NO, x.odds(0, 0, 2));
        due("20 part", NO, x.odds(0, 0, -1));
    }

    private static void promise21() {
        heads();
        due("21 no heads", NO, x.mean(0, 0));
        heads(0, 1, 0, 0);
        due("21 nothing", 0, x.mean(0, 0));
        due("21 nothing", 1, x.mean(0, 1));
        x.knot(0, 0, 3, 1);
        due("21 lowest", 5, x.mean(0, 0));
        due("21 lowest", 2, x.mean(0, 1));
        x.knot(1, 0, 3, 1);
        due("21 by day", 15, x.mean(1, 0));
        due("21 by day", 4, x.mean(1, 1));
        due("21 by lamp", 5, x.mean(0, 0));
        due("21 by lamp", 1, x.mean(0, 1));
        due("21 light", NO, x.mean(2, 0));
        due("21 light", NO, x.mean(-1, 0));
        due("21 part", NO, x.mean(0, 2));
    }

    private static void promise22() {
        heads(0);
        due("22 a night, whatever the head", 1, x.plan(0, 77));
        due("22 none", -1, x.plan(1, 1));
        due("22 none", -1, x.plan(3, -1));
        due("22 none", -1, x.plan(4, 0));
        due("22 none", -1, x.plan(-2, 0));
        for (int i = 2; i <= 10; i++) {
            due("22 plan", i, x.plan(i % 4, 0));
        }
        due("22 full", -4, x.plan(0, 0));
        due("22 none ahead of full", -1, x.plan(4, 0));
        due("22 count", 10, x.count(3));
        due("22 empty", 0, x.plan(-1, 99));
        due("22 count", 0, x.count(3));
    }

    private static void promise23() {
        heads(0, 0);
        for (int c = 0; c < 4; c++) {
            x.knot(0, c, 1, c + 1);
            x.knot(1, c, 2, c + 1);
        }
        due("23 nothing goes", 0, x.ends(0));
        due("23 nothing goes", 8, x.ends(1));
        x.plan(0, 0);
        due("23 a night", 2, x.ends(0));
        due("23 a night", 6, x.ends(1));
        x.plan(2, 0);
        x.plan(0, 0);
        due("23 one shelved", 3, x.ends(0));
        due("23 one shelved", 5, x.ends(1));
        x.plan(1, 1);
        due("23 no hair: not fallen", 3, x.ends(0));
        due("23 no hair", 3, x.ends(1));
        x.plan(3, 0);
        x.plan(0, 0);
        due("23 not shelved", 4, x.ends(0));
        due("23 not shelved", 2, x.ends(1));
        due("23 none", -1, x.ends(2));
        due("23 none", -1, x.ends(-1));
        due("23 changed nothing", 8, x.told(3));
        due("23 changed nothing", 0, x.of(0, 4));
        due("23 rain", 0, theatre("rain 2"));
        due("23 rain on nights 0 and 2", 7, x.ends(0));
    }

    private static void promise24() {
        x = new HairAtATime();
        for (int i = 1; i <= 8; i++) {
            due("24 book", i, x.book(i - 1, i == 1 ? 99 : 0));
        }
        due("24 full", -4, x.book(0, 0));
        due("24 bad ahead of full", -2, x.book(0, 100));
        due("24 bad", -2, x.book(0, -1));
        due("24 none", -1, x.book(8, 100));
        due("24 none", -1, x.book(-2, 100));
        due("24 count", 8, x.count(4));
        due("24 empty", 0, x.book(-1, 100));
        due("24 count", 0, x.count(4));
    }

    private static void promise25() {
        heads(0);
        due("25 none", -5, x.looked());
        x.book(3, 10);
        x.book(4, 10);
        x.book(4, 9);
        due("25 the third", 2, x.looked());
        x.knot(0, 0, 4, 1);
        due("25 the second now", 1, x.looked());
        x.book(-1, 0);
        due("25 none", -5, x.looked());
    }

    private static void promise26() {
        heads(0);
        due("26 none", -1, x.judge(6, 0));
        due("26 none", -1, x.judge(-1, 0));
        due("26 nothing there", 100, x.judge(0, 0));
        due("26 nothing there", 100, x.judge(0, MAX));
        for (int sort = 0; sort < 5; sort++) {
            x.tape(1, sort, 0);
            due("26 sort " + sort, sort == 2 ? 100 : -12, x.judge(1, -1));
        }
        x.tape(0, 2, 10);
        for (int i = 0; i < 10; i++) {
            x.item(0, i, 10);
        }
        due("26 all alike", -5, x.judge(0, 0));
        due("26 all alike", -5, x.judge(0, 2));
        due("26 ends ahead", 107, x.judge(0, 3));
        due("26 ends ahead", 101, x.judge(0, 9));
        due("26 ends ahead", 100, x.judge(0, 10));
        due("26 beyond", 100, x.judge(0, 11));
        due("26 beyond", 100, x.judge(0, MAX));
        due("26 below", 100, x.judge(0, -1));
        due("26 below", 100, x.judge(0, MIN));
        x.knot(0, 0, 6, 1);
        due("26 the first that is otherwise", 6, x.judge(0, 0));
        due("26 the first that is otherwise", 6, x.judge(0, 3));
        due("26 ends ahead of that", 106, x.judge(0, 4));
        x.item(0, 2, 11);
        due("26 otherwise at once", 0, x.judge(0, 2));
    }

    private static void promise27() {
        heads();
        due("27 image", 0, x.image());
        x.head(0, 1, 2);
        due("27 image", 1, x.image());
        x.head(0, 1, 2);
        due("27 the newest image", 1, x.undo());
        due("27 the newest image", 1, x.count(0));
    }

    private static void promise28() {
        heads(6, 1);
        due("28 state", -3, x.undo());
        x.knot(0, 0, 3, 5);
        x.row(0, 3, 4);
        x.see(0, 0, 1);
        x.plan(0, 0);
        x.book(0, 1);
        theatre("rain 1");
        x.pass(1);
        x.image();
        theatre("rain 9");
        Checks.feed(x, "ra");
        x.tape(2, 0, 3);
        x.act(0, 0, 0);
        x.knot(0, 1, 3, 5);
        x.row(0, 3, 9);
        x.set(0, 0, 1);
        x.set(0, 1, 1);
        x.shelve(0, true);
        x.see(-1, 0, 0);
        x.plan(-1, 0);
        x.book(-1, 0);
        x.drawer(5, 0, 1);
        x.drawer(5, 1, 1);
        x.drawer(5, 2, 1);
        x.pass(9);
        x.head(0, 0, 0);
        for (int again = 0; again < 2; again++) {
            due("28 undo", 2, x.undo());
            int[] what = {0, 6, 1, 5, 2, 40, 3, 30, 4, 0, 5, 1, 10, 3, 11, -5, 20, 3, 21, 0};
            for (int i = 0; i < what.length; i += 2) {
                due("28 of", what[i + 1], x.of(0, what[i]));
            }
            int[] told = {0, 1, 1, 1, 2, 0, 3, 1, 13, 9, 15, 10, 25, 50, 35, 50};
            for (int i = 0; i < told.length; i += 2) {
                due("28 told(" + told[i] + ")", told[i + 1], x.told(told[i]));
            }
            int[] counts = {2, 2, 1, 1, 1, 2, 2};
            for (int i = 0; i < counts.length; i++) {
                due("28 count(" + i + ")", counts[i], x.count(i));
            }
            due("28 row", 30 - 1 + 4, x.shade(0, 3, 0));
            due("28 tapes stay", 0, x.read(2, 2));
            due("28 the trace stays", 71, x.trace(0));
            x.pass(1);
            x.row(0, 3, 0);
        }
        headAnew();
    }

    /** What a HEAD that an undo took away had is not the next one's. */
    private static void headAnew() {
        for (int again = 0; again < 2; again++) {
            x.undo();
            due("28 a head comes anew", 2, x.head(6, 3, 3));
            due("28 not shelved", 0, x.shelve(2, true));
            due("28 due", 30, x.set(2, 1, 4));
            due("28 no hair", 0, x.of(2, 5));
            for (int part = 0; part < 4; part++) {
                due("28 its row", 0, x.row(2, part, 5));
                x.knot(2, part, 0, 9);
            }
            due("28 hairs", 4, x.of(2, 5));
        }
    }

    private static void trace(String of, int... bodies) {
        due("30 how many by " + of, bodies.length, x.count(6));
        for (int i = 0; i < bodies.length; i++) {
            due("30 trace(" + i + ") by " + of, bodies[i], x.trace(i));
        }
        due("30 none", -1, x.trace(bodies.length));
        due("30 none", -1, x.trace(-1));
        due("30 none", -1, x.trace(20));
        due("30 none", -1, x.trace(MAX));
    }

    private static void promise29And30() {
        x = new HairAtATime();
        due("29 no head", 0, x.act(0, 0, 9));
        trace("no head");
        for (int kind = 6; kind >= 1; kind--) {
            x.head(kind, kind + 1, 0);
        }
        due("29 front curls", 7 + 5, x.act(5, 0, 7));
        trace("front curls", 10);
        due("29 front nods", (7 + 5 - 2) ^ 6, x.act(5, 1, 7));
        trace("front nods", 20, 11, 10);
        due("29 front tells", ((7 + 5 - 2) ^ 6) * 2, x.act(5, 2, 7));
        trace("front tells", 12, 20, 11, 10);
        due("29 back curls", 7 * 3 + 4, x.act(4, 0, 7));
        trace("back curls", 30, 10);
        due("29 back tells", (7 * 3 + 4 - 3) * 2, x.act(4, 2, 7));
        trace("back tells", 12, 11, 30, 10);
        due("29 old tells", (7 + 3 - 4) * 2 + 1 + 3 - 4, x.act(3, 2, 7));
        trace("old tells", 40, 12, 11, 10, 11, 10);
        due("29 parting curls", -(7 + 2), x.act(2, 0, 7));
        trace("parting curls", 50, 10);
        due("29 parting nods", (-(8 + 2) - 5) ^ 6, x.act(2, 1, 7));
        trace("parting nods", 51, 20, 11, 50, 10);
        due("29 nape tells", ((7 - 1) * 3 + 1 - 6) * 2, x.act(1, 2, 7));
        trace("nape tells", 60, 12, 11, 30, 10);
        due("29 told curls", 6 ^ 7, x.act(0, 0, 6));
        trace("told curls", 71, 10);
        due("29 told nods", (6 ^ 7) - 7 + 2, x.act(0, 1, 6));
        trace("told nods", 70, 11, 71, 10, 10);
        due("29 told tells", ((6 ^ 7) - 7 + 2) * 2 + (1 ^ 7) - 7 + 2, x.act(0, 2, 6));
        trace("told tells", 40, 12, 70, 11, 71, 10, 10, 70, 11, 71, 10, 10);
        due("29 wraps", MIN + 4, x.act(5, 0, MAX));
        due("29 wraps", MAX * 3 + 4, x.act(4, 0, MAX));
        due("29 no act", 0, x.act(0, 3, 9));
        trace("no act");
        x.act(0, 0, 1);
        due("29 no act", 0, x.act(0, -1, 9));
        trace("no act");
    }

    private static void promise31() {
        heads(0, 1, 2, 4, 5, 6);
        // what HEADS can be taken for: rows by HEAD, bits by KIND
        int[] kinds = {0, 1, 2, 4, 5, 6};
        int[] for1 = {0b0000001, 0b0000011, 0b0000101, 0b0010011, 0b0100101, 0b1001001};
        for (int p = 0; p < 6; p++) {
            for (int k = 0; k < 7; k++) {
                due("31 taken(" + p + ", " + k + ")", (for1[p] >> k & 1) == 1 ? kinds[p] : -12, x.taken(p, k));
            }
        }
        due("31 bad", -2, x.taken(6, 7));
        due("31 bad", -2, x.taken(0, -1));
        due("31 nothing", -11, x.taken(6, 6));
        due("31 nothing", -11, x.taken(-1, 0));
    }

    private static void promise32() {
        heads(0, 6, 0);
        theatre("rain 1");
        theatre("rain 2");
        x.see(0, 0, 0);
        for (int i = 0; i < 4; i++) {
            x.plan(0, 0);
            x.book(0, 0);
        }
        x.plan(0, 0);
        Checks.feed(x, "warm 1");
        x.act(1, 2, 3);
        int[] counts = {3, 2, 1, 5, 4, 6, 12};
        for (int what = 0; what < 7; what++) {
            due("32 count(" + what + ")", counts[what], x.count(what));
        }
        due("32 bad", -2, x.count(-1));
        due("32 bad", -2, x.count(7));
    }

    private static void promise33() {
        x = new HairAtATime();
        due("33 tape", 1, x.tape(5, 4, 60));
        due("33 all 0", 0, x.read(5, 59));
        due("33 the end", NO, x.read(5, 60));
        x.item(5, 0, 1);
        due("33 size", -14, x.tape(5, 0, -1));
        due("33 size", -14, x.tape(5, 0, MIN));
        due("33 bad", -2, x.tape(5, 0, 61));
        due("33 bad", -2, x.tape(5, 5, -1));
        due("33 bad", -2, x.tape(5, -2, 0));
        due("33 none", -1, x.tape(6, 9, 0));
        due("33 none", -1, x.tape(-1, -1, 0));
        due("33 as it was", 1, x.read(5, 0));
        due("33 anew", 1, x.tape(5, 0, 2));
        due("33 all 0", 0, x.read(5, 0));
        due("33 nothing", 1, x.tape(5, -1, MIN));
        due("33 nothing", -11, x.item(5, 0, 0));
        due("33 none in it", 1, x.tape(5, 3, 0));
        due("33 none in it", -13, x.item(5, 0, 0));
    }

    private static void promise34() {
        x = new HairAtATime();
        long v = 0x1234_5678_9ABC_DEF0L;
        long[] kept = {(byte) 0xF0, (short) 0xDEF0, 0x9ABC_DEF0, v, 1};
        for (int sort = 0; sort < 5; sort++) {
            x.tape(sort, sort, 2);
            due("34 item", 1, x.item(sort, 1, v));
            due("34 of sort " + sort, kept[sort], x.read(sort, 1));
            due("34 place", -13, x.item(sort, 2, v));
            due("34 place", -13, x.item(sort, -1, v));
            x.item(sort, 1, 1L << 40);
            due("34 of sort " + sort, sort < 3 ? 0 : sort == 3 ? 1L << 40 : 1, x.read(sort, 1));
        }
        due("34 nothing", -11, x.item(5, 0, v));
        due("34 none", -1, x.item(6, 0, v));
        due("34 none", -1, x.item(-1, 0, v));
    }

    private static void promise35() {
        x = new HairAtATime();
        due("35 nothing", NO, x.read(0, 0));
        x.tape(0, 3, 1);
        due("35 read", 0, x.read(0, 0));
        x.item(0, 0, Long.MAX_VALUE);
        due("35 read", Long.MAX_VALUE, x.read(0, 0));
        due("35 place", NO, x.read(0, 1));
        due("35 place", NO, x.read(0, -1));
        due("35 place", NO, x.read(0, MAX));
        due("35 tape", NO, x.read(6, 0));
        due("35 tape", NO, x.read(-1, 0));
    }

    private static void promise36() {
        x = new HairAtATime();
        x.tape(0, 2, 5);
        x.tape(1, 2, 3);
        x.tape(2, 1, 3);
        for (int i = 0; i < 5; i++) {
            x.item(0, i, i + 1);
        }
        due("36 onto itself, behind", 4, x.shift(0, 0, 0, 1, 4));
        row(0, 1, 1, 2, 3, 4);
        due("36 onto itself, ahead", 3, x.shift(0, 2, 0, 1, 3));
        row(0, 1, 2, 3, 4, 4);
        due("36 to another", 2, x.shift(0, 3, 1, 1, 2));
        row(1, 0, 4, 4);
        due("36 none of them", 0, x.shift(0, 5, 1, 3, 0));
        int[][] places = {{6, 0, 0}, {0, 4, 0}, {-1, 0, 1}, {0, -1, 1}, {0, 0, -1}, {0, 0, 4}, {3, 0, 3},
            {0, 1, 3}, {MAX, 0, MAX}, {0, 0, MAX}, {MIN, MIN, MIN}, {1, 1, MAX}};
        for (int[] place : places) {
            due("36 place", -13, x.shift(0, place[0], 1, place[1], place[2]));
        }
        due("36 cast", -12, x.shift(0, -1, 2, 0, 9));
        due("36 nothing", -11, x.shift(0, -1, 3, 0, 9));
        due("36 nothing", -11, x.shift(3, -1, 0, 0, 9));
        due("36 none", -1, x.shift(6, 0, 3, 0, 1));
        due("36 none", -1, x.shift(3, 0, -1, 0, 1));
        row(0, 1, 2, 3, 4, 4);
    }

    private static void row(int tape, int... items) {
        for (int i = 0; i < items.length; i++) {
            due("36 item " + i, items[i], x.read(tape, i));
        }
    }

    public static void main(String[] args) {
        promise1();
        promise2();
        promise3();
        promise4();
        promise5();
        promise6();
        promise7();
        promise8();
        promise9();
        promise10();
        promise11();
        promise12();
        promise13();
        promise14();
        promise15();
        promise16();
        promise17();
        promise18();
        promise19();
        promise20();
        promise21();
        promise22();
        promise23();
        promise24();
        promise25();
        promise26();
        promise27();
        promise28();
        promise29And30();
        promise31();
        promise32();
        promise33();
        promise34();
        promise35();
        promise36();
        CHECKS.end();
    }
}
