/** Long runs of calls that follow from a counted number: the class and Model answer alike. */
final class ModelTest {
    /** An object takes 512 calls: the longest of one turn is some 130, and LOOKS come behind all. */
    private static final int RUNS = 1500, CALLS = 300, LOOKS = 80;
    private static final int[] ODD = {-1, 0, 1, -2, 3, 5, 6, 7, 8, 9, 10, 60, 61, 99, 100, 128,
        Integer.MIN_VALUE, Integer.MAX_VALUE, Integer.MIN_VALUE + 1, Integer.MAX_VALUE - 1};
    private static final String[] E = {"p=1", "k>2", "v<5", "c=3", "l=0", "n<7", "!l=1", "(c<2|c>5)&!k=4",
        "!(v>3|p<2)", "((((c=1))))", "!!!!n=9", "k=6|k=2&c<4", "!(c<5&!(l=0|v>2))", "p<99&(n>3|n=0)"};

    private final Checks checks = new Checks("ModelTest");
    private final HairAtATime x = new HairAtATime();
    private final Model m = new Model();
    private long seed;

    private ModelTest(long seed) {
        this.seed = seed;
    }

    private int below(int n) {
        seed = seed * 6364136223846793005L + 1442695040888963407L;
        return (int) ((seed >>> 33) % n);
    }

    /** Mostly a number from low to high, now and then an odd one. */
    private int some(int low, int high) {
        int which = below(24);
        return which == 0 ? ODD[below(ODD.length)] : which == 1 ? low - 1 : which == 2 ? high + 1
            : low + below(high - low + 1);
    }

    private int someHead() {
        return below(8) == 0 ? some(-1, 6) : below(Math.max(1, m.count(0)));
    }

    private String someText() {
        StringBuilder text = new StringBuilder();
        for (int clause = 0; clause < 1 + below(4); clause++) {
            text.append(clause > 0 ? ";" : "");
            text.append(new String[] {"warm ", "cool ", "rain "}[below(3)]).append(below(100));
            if (text.lastIndexOf("rain") < text.lastIndexOf(";") + 1) {
                text.append(' ').append(E[below(E.length)]).append(below(3) == 0 ? "|" + E[below(E.length)] : "");
            }
        }
        if (below(3) == 0) {
            int at = below(text.length() + 1);
            if (below(2) == 0) {
                text.insert(at, "!(&|;x9 )=".charAt(below(10)));
            } else {
                text.setLength(at);
            }
        }
        return text.toString();
    }

    private void due(String call, long want, long got) {
        checks.due(call, want, got);
    }

    private int theatreToo() {
        String text = someText();
        for (int i = 0; i < text.length(); i++) {
            due("feed", m.feed(text.charAt(i)), x.feed(text.charAt(i)));
        }
        due("theatre() of " + text, m.theatre(), x.theatre());
        return text.length() + 1;
    }

    /** Makes calls of both: how many. */
    private int call() {
        int p = someHead();
        int a, b, c;
        switch (below(44)) {
            case 0: case 1: case 2:
                a = some(0, 6); b = some(0, 9); c = some(0, 99);
                due("head", m.head(a, b, c), x.head(a, b, c));
                return 1;
            case 3: case 4: case 5: case 6: case 7:
                a = some(0, 27);
                due("of(" + p + ", " + a + ")", m.of(p, a), x.of(p, a));
                return 1;
            case 8: case 9:
                a = some(0, 7); b = some(0, 1);
                due("shade", m.shade(p, a, b), x.shade(p, a, b));
                return 1;
            case 10:
                a = some(0, 1); b = some(0, a == 0 ? 99 : 12);
                due("set", m.set(p, a, b), x.set(p, a, b));
                return 1;
            case 11:
                a = some(0, 7); b = some(0, 2); c = some(0, b == 2 ? 3 : 99);
                due("drawer", m.drawer(a, b, c), x.drawer(a, b, c));
                return 1;
            case 12: case 13: case 14: case 15: case 16: case 17:
                a = some(0, 7); b = some(0, 7); c = some(1, 9);
                due("knot", m.knot(p, a, b, c), x.knot(p, a, b, c));
                return 1;
            case 18:
                due("shelve", m.shelve(p, (seed & 1) == 0), x.shelve(p, (seed & 1) == 0));
                return 1;
            case 19:
                a = some(0, 3); b = some(0, 9);
                due("row", m.row(p, a, b), x.row(p, a, b));
                return 1;
            case 20:
                a = some(0, 127);
                due("feed", m.feed(a), x.feed(a));
                return 1;
            case 21:
                if (below(3) == 0) {
                    return theatreToo();
                }
                a = some(0, 37);
                due("told", m.told(a), x.told(a));
                return 1;
            case 22:
                a = some(0, 60) / (1 + below(20));
                due("pass", m.pass(a), x.pass(a));
                return 1;
            case 23: case 24:
                a = some(0, 60) / (1 + below(10)); b = below(3) == 0 ? some(0, 39) : 10 + 10 * below(3) + below(6);
                due("on", m.on(a, b), x.on(a, b));
                return 1;
            case 25:
                a = some(0, 1); b = some(1, 4); c = some(-1, 3);
                due("mix", m.mix(p, a, b, c), x.mix(p, a, b, c));
                return 1;
            case 26:
                a = some(1, 9);
                due("inTime", m.inTime(a), x.inTime(a));
                return 1;
            case 27: case 28:
                // what is so now, mostly: else hardly a row of SEEN would ever be
                a = some(0, 1);
                b = below(3) > 0 ? Math.max(0, m.of(p, 6 + (a & 1))) : some(0, 9999);
                due("see", m.see(p, a, b), x.see(p, a, b));
                return 1;
            case 29:
                due("wrong", m.wrong(), x.wrong());
                return 1;
            case 30: case 31:
                a = some(0, 1); b = some(0, 1);
                due("can", m.can(p, a, b), x.can(p, a, b));
                return 1;
            default:
                return callOther(p);
        }
    }

    private int callOther(int p) {
        int a, b, c, d;
        switch (below(20)) {
            case 0:
                a = some(0, 1); b = some(0, 1);
                due("odds", m.odds(p, a, b), x.odds(p, a, b));
                return 1;
            case 1:
                a = some(0, 1); b = some(0, 1);
                due("mean", m.mean(a, b), x.mean(a, b));
                return 1;
            case 2: case 3:
                a = below(12) == 0 ? -1 : some(0, 3);
                due("plan", m.plan(a, p), x.plan(a, p));
                return 1;
            case 4:
                a = some(0, 1);
                due("ends", m.ends(a), x.ends(a));
                return 1;
            case 5:
                a = below(10) == 0 ? -1 : some(0, 7); b = below(2) == 0 ? some(0, 99) : Math.max(0, m.told(10 + (a & 7)));
                due("book", m.book(a, b), x.book(a, b));
                return 1;
            case 6:
                due("looked", m.looked(), x.looked());
                return 1;
            case 7:
                a = some(0, 5); b = some(-1, 60) / (1 + below(4));
                due("judge", m.judge(a, b), x.judge(a, b));
                return 1;
            case 8:
                a = below(3);
                due("image", a > 0 ? 0 : m.image(), a > 0 ? 0 : x.image());
                return 1;
            case 9:
                a = below(5);
                due("undo", a > 0 ? 0 : m.undo(), a > 0 ? 0 : x.undo());
                return 1;
            case 10: case 11:
                a = some(0, 2); b = below(2) == 0 ? (int) seed : some(-9, 9);
                due("act(" + p + ", " + a + ", " + b + ")", m.act(p, a, b), x.act(p, a, b));
                return 1;
            case 12:
                a = some(0, 12);
                due("trace", m.trace(a), x.trace(a));
                return 1;
            case 13:
                a = some(0, 6);
                due("taken", m.taken(p, a), x.taken(p, a));
                return 1;
            case 14:
                a = some(0, 6);
                due("count", m.count(a), x.count(a));
                return 1;
            case 15:
                a = some(0, 5); b = some(-1, 4); c = some(0, 60) / (1 + below(6));
                due("tape", m.tape(a, b, c), x.tape(a, b, c));
                return 1;
            case 16:
                a = some(0, 5); b = some(0, 12);
                due("item", m.item(a, b, seed), x.item(a, b, seed));
                return 1;
            case 17:
                a = some(0, 5); b = some(0, 12);
                due("read", m.read(a, b), x.read(a, b));
                return 1;
            case 18:
                a = some(0, 5); b = some(0, 9); c = below(3) == 0 ? a : some(0, 5); d = some(0, 4);
                int n = some(0, 9);
                due("shift", m.shift(a, b, c, d, n), x.shift(a, b, c, d, n));
                return 1;
            default:
                return stockRow();
        }
    }

    /** A TAPE of ints that tells STOCK, or nearly. */
    private int stockRow() {
        int tape = below(6);
        int n = 6 + below(5);
        due("tape", m.tape(tape, 2, n), x.tape(tape, 2, n));
        for (int i = 0; i < n; i++) {
            int stock = below(20) == 0 ? below(12) : m.told(10 + (i & 7));
            due("item", m.item(tape, i, stock), x.item(tape, i, stock));
        }
        due("judge", m.judge(tape, 0), x.judge(tape, 0));
        return n + 2;
    }

    /** Some of all that can be asked of the state is alike. */
    private void look() {
        int a = below(8) - 1;
        int b;
        switch (below(4)) {
            case 0:
                b = below(28);
                due("of(" + a + ", " + b + ") at the end", m.of(a, b), x.of(a, b));
                break;
            case 1:
                b = below(39) - 1;
                due("told(" + b + ") at the end", m.told(b), x.told(b));
                break;
            case 2:
                due("count(" + a + ") at the end", m.count(a), x.count(a));
                break;
            default:
                b = below(62) - 1;
                due("read(" + a + ", " + b + ") at the end", m.read(a, b), x.read(a, b));
                break;
        }
    }

    public static void main(String[] args) {
        int runs = args.length > 0 ? Integer.parseInt(args[0]) : RUNS;
        Checks all = new Checks("ModelTest");
        for (int run = 0; run < runs; run++) {
            ModelTest test = new ModelTest(run * 7919L + 1);
            for (int calls = 0; calls < CALLS; ) {
                calls += test.call();
            }
            for (int looks = 0; looks < LOOKS; looks++) {
                test.look();
            }
            all.holds("run " + run, !test.checks.anyWrong());
            if (test.checks.anyWrong()) {
                break;
            }
        }
        all.end();
    }
}
