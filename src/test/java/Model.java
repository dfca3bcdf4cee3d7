import java.util.ArrayList;
import java.util.Arrays;
import java.util.Comparator;
import java.util.List;

/**
 * The document once more, in another way: states are copied whole, kinds are Java classes, texts are
 * split as strings, and what is sought is sought among all there is. ModelTest looks whether both agree.
 */
final class Model {
    static final long NO = Long.MIN_VALUE;

    static class Hair {
        int drawer, tight;

        Hair(int drawer, int tight) {
            this.drawer = drawer;
            this.tight = tight;
        }
    }

    static class Head {
        int kind, i, v, hers, due = 30;
        boolean shelved;
        int[] row = new int[4];
        Hair[] cells = new Hair[8];
        List<Integer> trace = new ArrayList<>();

        static Head of(int kind) {
            switch (kind) {
                case 1: return new Front();
                case 2: return new Back();
                case 3: return new Old();
                case 4: return new Parting();
                case 5: return new Nape();
                case 6: return new Told();
                default: return new Head();
            }
        }

        Head twin() {
            Head one = of(kind);
            one.kind = kind;
            one.i = i;
            one.v = v;
            one.hers = hers;
            one.due = due;
            one.shelved = shelved;
            one.row = row.clone();
            for (int c = 0; c < 8; c++) {
                one.cells[c] = cells[c] == null ? null : new Hair(cells[c].drawer, cells[c].tight);
            }
            return one;
        }

        int hairs() {
            return (int) Arrays.stream(cells).filter(h -> h != null).count();
        }

        int shade(int sum, int drawer, int light, int night) {
            return sum;
        }

        int curls(int x) {
            trace.add(10);
            return x + i;
        }

        int nods(int x) {
            trace.add(11);
            return curls(x) - v;
        }

        int tells(int x) {
            trace.add(12);
            return nods(x) * 2;
        }
    }

    static class Front extends Head {
        @Override int shade(int sum, int drawer, int light, int night) {
            return super.shade(sum, drawer, light, night) + (light == 1 ? v : 0);
        }

        @Override int nods(int x) {
            trace.add(20);
            return super.nods(x) ^ 6;
        }
    }

    static class Back extends Head {
        @Override int shade(int sum, int drawer, int light, int night) {
            return super.shade(sum, drawer, light, night) / 2;
        }

        @Override int curls(int x) {
            trace.add(30);
            return super.curls(x * 3);
        }
    }

    static class Old extends Head {
        @Override int shade(int sum, int drawer, int light, int night) {
            return super.shade(sum, drawer, light, night) - (night > 20 ? 20 : night);
        }

        @Override int tells(int x) {
            trace.add(40);
            return super.tells(x) + nods(1);
        }
    }

    static class Parting extends Front {
        @Override int shade(int sum, int drawer, int light, int night) {
            return light == 0 ? hers : super.shade(sum, drawer, light, night);
        }

        @Override int curls(int x) {
            trace.add(50);
            return -super.curls(x);
        }

        @Override int nods(int x) {
            trace.add(51);
            return super.nods(x + 1);
        }
    }

    static class Nape extends Back {
        @Override int shade(int sum, int drawer, int light, int night) {
            return super.shade(sum, drawer, light, night) + 10;
        }

        @Override int tells(int x) {
            trace.add(60);
            return super.tells(x - i);
        }
    }

    static class Told extends Old {
        @Override int shade(int sum, int drawer, int light, int night) {
            return super.shade(sum, drawer, light, night) + row[drawer % 4];
        }

        @Override int nods(int x) {
            trace.add(70);
            return super.nods(x) + super.curls(2);
        }

        @Override int curls(int x) {
            trace.add(71);
            return super.curls(x) ^ v;
        }
    }

    static class All {
        int[][] shades = new int[2][8];
        int[] stock = new int[8];
        List<Head> heads = new ArrayList<>();
        int night, fallen, holds = -1;
        List<int[]> seen = new ArrayList<>(), plan = new ArrayList<>(), book = new ArrayList<>();

        All() {
            for (int d = 0; d < 8; d++) {
                shades[0][d] = shades[1][d] = d * 10;
                stock[d] = 10;
            }
        }

        All twin() {
            All all = new All();
            all.shades[0] = shades[0].clone();
            all.shades[1] = shades[1].clone();
            all.stock = stock.clone();
            for (Head head : heads) {
                all.heads.add(head.twin());
            }
            all.night = night;
            all.fallen = fallen;
            all.holds = holds;
            all.seen.addAll(seen);
            all.plan.addAll(plan);
            all.book.addAll(book);
            return all;
        }

        int hairs() {
            return heads.stream().mapToInt(Head::hairs).sum();
        }
    }

    All all = new All();
    All image;
    List<String> theatres = new ArrayList<>();
    StringBuilder text = new StringBuilder();
    List<Integer> trace = new ArrayList<>();
    int[] sorts = {-1, -1, -1, -1, -1, -1};
    long[][] tapes = new long[6][0];

    static boolean in(int n, int low, int high) {
        return low <= n && n <= high;
    }

    boolean isHead(int p) {
        return in(p, 0, all.heads.size() - 1);
    }

    // ---- texts

    /** The FAULT, or -1: byte by byte, by what may come next. */
    static int fault(String text) {
        String open = "";
        int clauses = 1;
        // what the word is, then n, then (blank) E: "f" a factor may begin, "s" a sign, "d" the first digit,
        // "e" behind a digit that may have a second, "x" behind a factor
        String word = "";
        String where = "word";
        boolean rain = false;
        for (int i = 0; i < text.length(); i++) {
            char c = text.charAt(i);
            boolean digit = c >= '0' && c <= '9';
            if (where.equals("word")) {
                word += c;
                if (!"warm ".startsWith(word) && !"cool ".startsWith(word) && !"rain ".startsWith(word)) {
                    return i;
                }
                if (word.length() == 5) {
                    rain = word.startsWith("r");
                    where = "n1";
                }
            } else if (where.equals("n1")) {
                if (!digit) {
                    return i;
                }
                where = "n2";
            } else if (where.equals("n2") && digit) {
                where = "n3";
            } else if (where.equals("n2") || where.equals("n3")) {
                if (rain && c == ';' && clauses < 10) {
                    clauses++;
                    word = "";
                    where = "word";
                } else if (!rain && c == ' ') {
                    where = "f";
                } else {
                    return i;
                }
            } else if (where.equals("f")) {
                if ((c == '!' || c == '(') && open.length() < 4) {
                    open += c;
                } else if ("pkvcln".indexOf(c) >= 0) {
                    where = "s";
                } else {
                    return i;
                }
            } else if (where.equals("s")) {
                if (c != '<' && c != '=' && c != '>') {
                    return i;
                }
                where = "d";
            } else if (where.equals("d")) {
                if (!digit) {
                    return i;
                }
                where = "e";
            } else if (where.equals("e") && digit) {
                where = "x";
            } else {
                while (open.endsWith("!")) {
                    open = open.substring(0, open.length() - 1);
                }
                if (c == '&' || c == '|') {
                    where = "f";
                } else if (c == ')' && open.endsWith("(")) {
                    open = open.substring(0, open.length() - 1);
                    where = "x";
                } else if (c == ';' && open.isEmpty() && clauses < 10) {
                    clauses++;
                    word = "";
                    where = "word";
                } else {
                    return i;
                }
            }
        }
        boolean rainEnds = rain && (where.equals("n2") || where.equals("n3"));
        boolean eEnds = (where.equals("e") || where.equals("x")) && open.indexOf("(") < 0;
        return rainEnds || eEnds ? -1 : text.length();
    }

    static int apart(String text, char at) {
        int depth = 0;
        for (int i = 0; i < text.length(); i++) {
            char c = text.charAt(i);
            depth += c == '(' ? 1 : c == ')' ? -1 : 0;
            if (depth == 0 && c == at) {
                return i;
            }
        }
        return -1;
    }

    static boolean isTrue(String e, int p, Head head, int drawer, int light, int night) {
        int or = apart(e, '|');
        if (or >= 0) {
            return isTrue(e.substring(0, or), p, head, drawer, light, night)
                | isTrue(e.substring(or + 1), p, head, drawer, light, night);
        }
        int and = apart(e, '&');
        if (and >= 0) {
            return isTrue(e.substring(0, and), p, head, drawer, light, night)
                & isTrue(e.substring(and + 1), p, head, drawer, light, night);
        }
        if (e.charAt(0) == '!') {
            return !isTrue(e.substring(1), p, head, drawer, light, night);
        }
        if (e.charAt(0) == '(') {
            return isTrue(e.substring(1, e.length() - 1), p, head, drawer, light, night);
        }
        int value = new int[] {p, head.kind, head.v, drawer, light, night % 10}["pkvcln".indexOf(e.charAt(0))];
        int n = Integer.parseInt(e.substring(2));
        return e.charAt(1) == '<' ? value < n : e.charAt(1) == '=' ? value == n : value > n;
    }

    String[] clauses(All at) {
        return at.holds < 0 ? new String[0] : theatres.get(at.holds).split(";");
    }

    int rain(All at) {
        int n = 0;
        for (String clause : clauses(at)) {
            if (clause.startsWith("rain")) {
                n = Integer.parseInt(clause.substring(5));
            }
        }
        return n;
    }

    int shade(All at, int p, int drawer, int light) {
        Head head = at.heads.get(p);
        int sum = at.shades[light][drawer];
        for (String clause : clauses(at)) {
            String[] parts = clause.split(" ");
            if (parts.length == 3 && isTrue(parts[2], p, head, drawer, light, at.night)) {
                sum += Integer.parseInt(parts[1]) * (parts[0].equals("warm") ? 1 : -1);
            }
        }
        return head.shade(sum, drawer, light, at.night);
    }

    int off(All at, int p, int light) {
        Head head = at.heads.get(p);
        int shades = 0;
        for (Hair hair : head.cells) {
            if (hair != null) {
                shades += shade(at, p, hair.drawer, light);
            }
        }
        return Math.abs(shades - head.hers * head.hairs());
    }

    // ---- nights

    void goNight(All at, boolean asked) {
        int rain = rain(at);
        for (Head head : at.heads) {
            for (int c = 0; c < 8 && !head.shelved; c++) {
                if (head.cells[c] != null) {
                    head.cells[c].tight -= rain != 0 && at.night % rain == 0 ? 2 : 1;
                    if (head.cells[c].tight < 1) {
                        head.cells[c] = null;
                        at.fallen += asked || at.fallen < 9999 ? 1 : 0;
                    }
                }
            }
        }
        at.night++;
    }

    All behind(int nights) {
        All at = all.twin();
        for (int i = 0; i < nights; i++) {
            goNight(at, true);
        }
        return at;
    }

    // ---- the calls

    int head(int kind, int v, int hers) {
        if (!in(kind, 0, 6)) {
            return -1;
        }
        if (!in(v, 0, 9) || !in(hers, 0, 99)) {
            return -2;
        }
        if (all.heads.size() == 6) {
            return -4;
        }
        Head head = Head.of(kind);
        head.kind = kind;
        head.i = all.heads.size();
        head.v = v;
        head.hers = hers;
        all.heads.add(head);
        return head.i;
    }

    int of(int p, int what) {
        if (!isHead(p) || !in(what, 0, 9) && !in(what, 10, 17) && !in(what, 20, 27)) {
            return -10001;
        }
        Head head = all.heads.get(p);
        if (what >= 20) {
            return head.cells[what - 20] == null ? 0 : head.cells[what - 20].tight;
        }
        if (what >= 10) {
            return head.cells[what - 10] == null ? -5 : head.cells[what - 10].drawer;
        }
        switch (what) {
            case 0: return head.kind;
            case 1: return head.v;
            case 2: return head.hers;
            case 3: return head.due;
            case 4: return head.shelved ? 1 : 0;
            case 5: return head.hairs();
            case 6: return off(all, p, 0);
            case 7: return off(all, p, 1);
            case 8:
                for (int n = 0; n <= 60; n++) {
                    if (behind(n).heads.get(p).hairs() == 0) {
                        return n;
                    }
                }
                return -5;
            default:
                for (int apart = 0; apart < 5000; apart++) {
                    for (int d = 0; d < 8; d++) {
                        if (all.stock[d] > 0 && Math.abs(shade(all, p, d, 0) - head.hers) <= apart
                            && Math.abs(shade(all, p, d, 1) - head.hers) <= apart) {
                            return d;
                        }
                    }
                }
                return -5;
        }
    }

    int shade(int p, int drawer, int light) {
        return isHead(p) && in(drawer, 0, 7) && in(light, 0, 1) ? shade(all, p, drawer, light) : -10001;
    }

    int set(int p, int what, int n) {
        if (!isHead(p) || !in(what, 0, 1)) {
            return -1;
        }
        if (n < 0 || n > (what == 0 ? 99 : 30)) {
            return -2;
        }
        Head head = all.heads.get(p);
        int was = what == 0 ? head.hers : head.due;
        head.hers = what == 0 ? n : head.hers;
        head.due = what == 1 ? n : head.due;
        return was;
    }

    int drawer(int drawer, int what, int n) {
        if (!in(drawer, 0, 7) || !in(what, 0, 2)) {
            return -1;
        }
        if (!in(n, 0, 99)) {
            return -2;
        }
        int[] of = what == 2 ? all.stock : all.shades[what];
        int was = of[drawer];
        of[drawer] = n;
        return was;
    }

    int knot(int p, int cell, int drawer, int tight) {
        if (!isHead(p) || !in(cell, 0, 7) || !in(drawer, 0, 7)) {
            return -1;
        }
        if (!in(tight, 1, 9)) {
            return -2;
        }
        if (all.heads.get(p).cells[cell] != null) {
            return -3;
        }
        if (all.stock[drawer] == 0) {
            return -4;
        }
        all.heads.get(p).cells[cell] = new Hair(drawer, tight);
        return --all.stock[drawer];
    }

    int shelve(int p, boolean is) {
        if (!isHead(p)) {
            return -1;
        }
        boolean was = all.heads.get(p).shelved;
        all.heads.get(p).shelved = is;
        return was ? 1 : 0;
    }

    int row(int p, int part, int n) {
        if (!isHead(p) || !in(part, 0, 3)) {
            return -1;
        }
        if (!in(n, 0, 9)) {
            return -2;
        }
        if (all.heads.get(p).kind != 6) {
            return -3;
        }
        int was = all.heads.get(p).row[part];
        all.heads.get(p).row[part] = n;
        return was;
    }

    int feed(int sign) {
        if (!in(sign, 0, 127)) {
            return -2;
        }
        if (text.length() == 100) {
            return -4;
        }
        return text.append((char) sign).length();
    }

    int theatre() {
        if (theatres.size() == 6) {
            return -4;
        }
        String read = text.toString();
        text.setLength(0);
        int fault = fault(read);
        if (fault >= 0) {
            return -10 - fault;
        }
        theatres.add(read);
        return all.holds = theatres.size() - 1;
    }

    int told(int what) {
        if (in(what, 10, 17)) {
            return all.stock[what - 10];
        }
        if (in(what, 20, 27) || in(what, 30, 37)) {
            return all.shades[what / 10 - 2][what % 10];
        }
        return what == 0 ? all.night : what == 1 ? rain(all) : what == 2 ? all.fallen : what == 3 ? all.hairs() : -1;
    }

    int pass(int n) {
        if (!in(n, 0, 60)) {
            return -2;
        }
        if (all.night + n > 9999) {
            return -3;
        }
        for (int i = 0; i < n; i++) {
            goNight(all, false);
        }
        return all.night;
    }

    int on(int n, int what) {
        if (what != 0 && (what < 10 || what > 39 || !isHead(what % 10))) {
            return -1;
        }
        if (!in(n, 0, 60)) {
            return -2;
        }
        All at = behind(n);
        switch (what / 10) {
            case 0: return at.fallen;
            case 1: return at.heads.get(what % 10).hairs();
            case 2: return off(at, what % 10, 0);
            default: return off(at, what % 10, 1);
        }
    }

    int mix(int p, int light, int n, int k) {
        if (!isHead(p) || !in(light, 0, 1) || !in(k, -1, 3)) {
            return -1;
        }
        if (!in(n, 1, 4)) {
            return -2;
        }
        int[] tones = new int[8];
        for (int d = 0; d < 8; d++) {
            tones[d] = shade(all, p, d, light);
        }
        String best = null;
        int least = 0;
        for (int all8 = 0; all8 < Math.pow(8, n); all8++) {
            String row = Integer.toOctalString(all8);
            row = "0".repeat(n - row.length()) + row;
            int[] left = all.stock.clone();
            int shades = 0;
            boolean is = true;
            for (int i = 0; i < n; i++) {
                int d = row.charAt(i) - '0';
                is &= i == 0 || row.charAt(i) >= row.charAt(i - 1);
                is &= --left[d] >= 0;
                shades += tones[d];
            }
            int apart = Math.abs(shades - n * all.heads.get(p).hers);
            if (is && (best == null || apart < least)) {
                best = row;
                least = apart;
            }
        }
        return best == null || k >= n ? -5 : k == -1 ? least : best.charAt(k) - '0';
    }

    int inTime(int pace) {
        if (!in(pace, 1, 9)) {
            return -2;
        }
        int best = 0;
        for (int bits = 0; bits < 64; bits++) {
            List<Head> set = new ArrayList<>();
            for (Head head : all.heads) {
                if ((bits & 1 << head.i) != 0) {
                    set.add(head);
                }
            }
            if (set.size() == Integer.bitCount(bits)) {
                set.sort(Comparator.comparingInt((Head h) -> h.due));
                int night = 0;
                boolean is = true;
                for (Head head : set) {
                    for (int hairs = head.hairs(); hairs < 8; hairs += pace) {
                        night++;
                    }
                    is &= night <= head.due;
                }
                if (is && set.size() > Integer.bitCount(best)) {
                    best = bits;
                }
            }
        }
        return best;
    }

    int see(int p, int light, int off) {
        if (p == -1) {
            all.seen.clear();
            return 0;
        }
        if (!isHead(p) || !in(light, 0, 1)) {
            return -1;
        }
        return !in(off, 0, 9999) ? -2 : add(all.seen, 5, p, light, off);
    }

    private static int add(List<int[]> rows, int most, int... row) {
        if (rows.size() == most) {
            return -4;
        }
        rows.add(row);
        return rows.size();
    }

    int wrong() {
        for (int[] row : all.seen) {
            if (off(all, row[0], row[1]) != row[2]) {
                return all.seen.indexOf(row);
            }
        }
        return -5;
    }

    int can(int p, int which, int what) {
        if (!isHead(p) || !in(which, 0, 1) || !in(what, 0, 1)) {
            return -1;
        }
        List<Integer> can = new ArrayList<>();
        for (int n = 0; n < (which == 0 ? 100 : 10); n++) {
            All at = all.twin();
            if (which == 0) {
                at.heads.get(p).hers = n;
            } else {
                at.heads.get(p).v = n;
            }
            boolean is = true;
            for (int[] row : at.seen) {
                is &= row[0] != p || off(at, p, row[1]) == row[2];
            }
            if (is) {
                can.add(n);
            }
        }
        return what == 0 ? can.size() : can.isEmpty() ? -5 : can.get(0);
    }

    private static long lowest(int above, int below, int part) {
        for (int by = 2; by <= below; by++) {
            while (above % by == 0 && below % by == 0) {
                above /= by;
                below /= by;
            }
        }
        return part == 0 ? above : below;
    }

    long odds(int p, int light, int part) {
        if (!isHead(p) || !in(light, 0, 1) || !in(part, 0, 1)) {
            return NO;
        }
        int less = 0;
        for (int d = 0; d < 8; d++) {
            All at = all.twin();
            for (int c = 0; c < 8; c++) {
                Hair hair = at.heads.get(p).cells[c];
                if (hair != null && hair.drawer == d) {
                    at.heads.get(p).cells[c] = null;
                }
            }
            less += off(at, p, light) < off(all, p, light) ? 1 : 0;
        }
        return lowest(less, 8, part);
    }

    long mean(int light, int part) {
        if (!in(light, 0, 1) || !in(part, 0, 1) || all.heads.isEmpty()) {
            return NO;
        }
        int sum = 0;
        for (Head head : all.heads) {
            sum += off(all, head.i, light);
        }
        return lowest(sum, all.heads.size(), part);
    }

    int plan(int what, int p) {
        if (what == -1) {
            all.plan.clear();
            return 0;
        }
        return !in(what, 0, 3) || what > 0 && !isHead(p) ? -1 : add(all.plan, 10, what, p);
    }

    int ends(int what) {
        if (!in(what, 0, 1)) {
            return -1;
        }
        All at = all.twin();
        for (int[] row : all.plan) {
            if (row[0] == 0) {
                goNight(at, true);
            } else if (row[0] == 1) {
                at.heads.get(row[1]).cells = new Hair[8];
            } else {
                at.heads.get(row[1]).shelved = row[0] == 2;
            }
        }
        return what == 0 ? at.fallen : at.hairs();
    }

    int book(int drawer, int stock) {
        if (drawer == -1) {
            all.book.clear();
            return 0;
        }
        return !in(drawer, 0, 7) ? -1 : !in(stock, 0, 99) ? -2 : add(all.book, 8, drawer, stock);
    }

    int looked() {
        for (int[] row : all.book) {
            if (all.stock[row[0]] != row[1]) {
                return all.book.indexOf(row);
            }
        }
        return -5;
    }

    int judge(int tape, int i) {
        if (!in(tape, 0, 5)) {
            return -1;
        }
        if (sorts[tape] == -1) {
            return 100;
        }
        if (sorts[tape] != 2) {
            return -12;
        }
        if (i < 0 || i > tapes[tape].length) {
            return 100;
        }
        long[] rest = Arrays.copyOfRange(tapes[tape], i, tapes[tape].length);
        for (int d = 0; d < Math.min(8, rest.length); d++) {
            if (rest[d] != all.stock[d]) {
                return d;
            }
        }
        return rest.length < 8 ? 100 + rest.length : -5;
    }

    int image() {
        image = all.twin();
        return all.heads.size();
    }

    int undo() {
        if (image == null) {
            return -3;
        }
        all = image.twin();
        return all.heads.size();
    }

    int act(int p, int act, int x) {
        trace = new ArrayList<>();
        if (!isHead(p) || !in(act, 0, 2)) {
            return 0;
        }
        Head head = all.heads.get(p).twin();
        int said = act == 0 ? head.curls(x) : act == 1 ? head.nods(x) : head.tells(x);
        trace = head.trace;
        return said;
    }

    int trace(int i) {
        return in(i, 0, Math.min(20, trace.size()) - 1) ? trace.get(i) : -1;
    }

    int taken(int p, int k) {
        if (!in(k, 0, 6)) {
            return -2;
        }
        if (!isHead(p)) {
            return -11;
        }
        return Head.of(k).getClass().isInstance(all.heads.get(p)) ? all.heads.get(p).kind : -12;
    }

    int count(int what) {
        int[] many = {all.heads.size(), theatres.size(), all.seen.size(), all.plan.size(), all.book.size(),
            text.length(), trace.size()};
        return in(what, 0, 6) ? many[what] : -2;
    }

    int tape(int tape, int sort, int n) {
        if (!in(tape, 0, 5)) {
            return -1;
        }
        if (!in(sort, -1, 4) || sort != -1 && n > 60) {
            return -2;
        }
        if (sort != -1 && n < 0) {
            return -14;
        }
        sorts[tape] = sort;
        tapes[tape] = new long[sort == -1 ? 0 : n];
        return 1;
    }

    int item(int tape, int i, long v) {
        if (!in(tape, 0, 5)) {
            return -1;
        }
        if (sorts[tape] == -1) {
            return -11;
        }
        if (!in(i, 0, tapes[tape].length - 1)) {
            return -13;
        }
        int spare = new int[] {56, 48, 32, 0, 0}[sorts[tape]];
        tapes[tape][i] = sorts[tape] == 4 ? (v == 0 ? 0 : 1) : v << spare >> spare;
        return 1;
    }

    long read(int tape, int i) {
        return in(tape, 0, 5) && in(i, 0, tapes[tape].length - 1) ? tapes[tape][i] : NO;
    }

    int shift(int tape, int i, int other, int j, int n) {
        if (!in(tape, 0, 5) || !in(other, 0, 5)) {
            return -1;
        }
        if (sorts[tape] == -1 || sorts[other] == -1) {
            return -11;
        }
        if (sorts[tape] != sorts[other]) {
            return -12;
        }
        if (n < 0 || i < 0 || j < 0 || (long) i + n > tapes[tape].length || (long) j + n > tapes[other].length) {
            return -13;
        }
        long[] were = tapes[tape].clone();
        for (int k = 0; k < n; k++) {
            tapes[other][j + k] = were[i + k];
        }
        return n;
    }
}
