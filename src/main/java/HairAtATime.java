/**
 * Wigs for a theatre, a hair at a time: HEADS of eight CELLS into which hair is knotted out of
 * DRAWERS, NIGHTS by which it falls out, THEATRES that are texts. ../shared/DOC.md is the document;
 * words in capitals mean here what they mean there.
 */
public final class HairAtATime {
    public static final int NONE = -1, BAD = -2, STATE = -3, FULL = -4;
    public static final long NO = Long.MIN_VALUE;

    private static final int NOT_ANY = -5, NOTHING = -11, CAST = -12, PLACE = -13, SIZE = -14;
    /** What stands for NONE where an answer may be below 0. */
    private static final int NONE_BELOW = -10001;

    private static final int HEAD = 0, FRONT = 1, BACK = 2, OLD = 3, PARTING = 4, NAPE = 5, TOLD = 6;
    private static final int LAMP = 0, DAY = 1;
    private static final int DRAWERS = 8, CELLS = 8, HEADS = 6, THEATRES = 6, TAPES = 6;
    private static final int PARTS = 4, MOST_CLAUSES = 10, MOST_TEXT = 100, MOST_DEPTH = 4;
    private static final int MOST_SEEN = 5, MOST_PLAN = 10, MOST_BOOK = 8, MOST_ROWS = 10;
    private static final int MOST_MIXED = 4, MOST_ITEMS = 60, MOST_KEPT = 20;
    private static final int MOST_NIGHTS = 60, LAST_NIGHT = 9999, MOST_FALLEN = 9999;
    /** No drawer, no theatre, no sort: where a number from 0 on would stand. */
    private static final int FREE = -1;
    private static final int BYTES = 0, SHORTS = 1, INTS = 2, LONGS = 3, BOOLEANS = 4;

    /** The KIND above each KIND. */
    private static final int[] ABOVE = {FREE, HEAD, HEAD, HEAD, FRONT, BACK, OLD};
    /** The body that each KIND has of an act, or the next KIND above that has one. */
    private static final int[] CURLS = {10, 10, 30, 10, 50, 30, 71};
    private static final int[] NODS = {11, 20, 11, 11, 51, 11, 70};
    private static final int[] TELLS = {12, 12, 12, 40, 12, 60, 40};

    private final Shop now = new Shop();
    private final Shop imaged = new Shop();
    /** What is asked goes on here, so that it changes nothing. */
    private final Shop trial = new Shop();
    private boolean hasImage;

    private final Theatre[] theatres = new Theatre[THEATRES];
    private final Theatre bare = new Theatre();
    private int theatreCount;
    private final Text text = new Text();

    private final Tape[] tapes = new Tape[TAPES];
    private final Acts acts = new Acts();
    private final Mixing mixing = new Mixing();

    private final int[] letters = new int[6];
    private final int[] tones = new int[DRAWERS];
    private final int[] together = new int[MOST_SEEN];
    private final int[] needs = new int[HEADS];

    public HairAtATime() {
        for (int i = 0; i < theatres.length; i++) {
            theatres[i] = new Theatre();
        }
        for (int i = 0; i < tapes.length; i++) {
            tapes[i] = new Tape();
        }
    }

    // ---- heads, drawers, theatres

    public int head(int kind, int v, int hers) {
        if (!within(kind, HEAD, TOLD)) {
            return NONE;
        }
        if (!within(v, 0, 9) || !within(hers, 0, 99)) {
            return BAD;
        }
        if (now.count >= HEADS) {
            return FULL;
        }
        now.heads[now.count].begin(kind, v, hers);
        now.count++;
        return now.count - 1;
    }

    public int of(int head, int what) {
        if (!isHead(head)) {
            return NONE_BELOW;
        }
        Head one = now.heads[head];
        if (within(what, 10, 9 + CELLS)) {
            int drawer = one.hair[what - 10];
            return drawer == FREE ? NOT_ANY : drawer;
        }
        if (within(what, 20, 19 + CELLS)) {
            return one.tight[what - 20];
        }
        switch (what) {
            case 0: return one.kind;
            case 1: return one.v;
            case 2: return one.hers;
            case 3: return one.due;
            case 4: return bit(one.shelved);
            case 5: return one.hairs();
            case 6: return offBy(now, head, LAMP);
            case 7: return offBy(now, head, DAY);
            case 8: return bald(head);
            case 9: return near(head);
            default: return NONE_BELOW;
        }
    }

    public int shade(int head, int drawer, int light) {
        if (!isHead(head) || !isDrawer(drawer) || !isLight(light)) {
            return NONE_BELOW;
        }
        return tone(now, head, drawer, light);
    }

    public int set(int head, int what, int n) {
        if (!isHead(head) || !within(what, 0, 1)) {
            return NONE;
        }
        if (!within(n, 0, what == 0 ? 99 : 30)) {
            return BAD;
        }
        Head one = now.heads[head];
        int was = what == 0 ? one.hers : one.due;
        if (what == 0) {
            one.hers = n;
        } else {
            one.due = n;
        }
        return was;
    }

    public int drawer(int drawer, int what, int n) {
        if (!isDrawer(drawer) || !within(what, 0, 2)) {
            return NONE;
        }
        if (!within(n, 0, 99)) {
            return BAD;
        }
        int[] row = what == 0 ? now.lamp : what == 1 ? now.day : now.stock;
        int was = row[drawer];
        row[drawer] = n;
        return was;
    }

    public int knot(int head, int cell, int drawer, int tight) {
        if (!isHead(head) || !within(cell, 0, CELLS - 1) || !isDrawer(drawer)) {
            return NONE;
        }
        if (!within(tight, 1, 9)) {
            return BAD;
        }
        Head one = now.heads[head];
        if (one.hair[cell] != FREE) {
            return STATE;
        }
        if (now.stock[drawer] <= 0) {
            return FULL;
        }
        one.hair[cell] = drawer;
        one.tight[cell] = tight;
        now.stock[drawer]--;
        return now.stock[drawer];
    }

    public int shelve(int head, boolean is) {
        if (!isHead(head)) {
            return NONE;
        }
        int was = bit(now.heads[head].shelved);
        now.heads[head].shelved = is;
        return was;
    }

    public int row(int head, int part, int n) {
        if (!isHead(head) || !within(part, 0, PARTS - 1)) {
            return NONE;
        }
        if (!within(n, 0, 9)) {
            return BAD;
        }
        Head one = now.heads[head];
        if (one.kind != TOLD) {
            return STATE;
        }
        int was = one.row[part];
        one.row[part] = n;
        return was;
    }

    public int feed(int sign) {
        if (!within(sign, 0, 127)) {
            return BAD;
        }
        if (text.length >= MOST_TEXT) {
            return FULL;
        }
        text.bytes[text.length] = (byte) sign;
        text.length++;
        return text.length;
    }

    public int theatre() {
        if (theatreCount >= THEATRES) {
            return FULL;
        }
        int fault = Text.faultOf(text, theatres[theatreCount]);
        text.length = 0;
        if (fault >= 0) {
            return -10 - fault;
        }
        now.holds = theatreCount;
        theatreCount++;
        return now.holds;
    }

    public int told(int what) {
        if (within(what, 10, 9 + DRAWERS)) {
            return now.stock[what - 10];
        }
        if (within(what, 20, 19 + DRAWERS)) {
            return now.lamp[what - 20];
        }
        if (within(what, 30, 29 + DRAWERS)) {
            return now.day[what - 30];
        }
        switch (what) {
            case 0: return now.night;
            case 1: return stage(now).rain;
            case 2: return now.fallen;
            case 3: return now.hairs();
            default: return NONE;
        }
    }

    // ---- nights

    public int pass(int n) {
        if (!within(n, 0, MOST_NIGHTS)) {
            return BAD;
        }
        if (now.night + n > LAST_NIGHT) {
            return STATE;
        }
        goNights(now, n, MOST_FALLEN);
        return now.night;
    }

    public int on(int n, int what) {
        boolean ofHead = within(what, 10, 39) && isHead(what % 10);
        if (what != 0 && !ofHead) {
            return NONE;
        }
        if (!within(n, 0, MOST_NIGHTS)) {
            return BAD;
        }
        trial.copy(now);
        goNights(trial, n, Integer.MAX_VALUE);
        if (what == 0) {
            return trial.fallen;
        }
        if (what < 20) {
            return trial.heads[what % 10].hairs();
        }
        return offBy(trial, what % 10, what < 30 ? LAMP : DAY);
    }

    // ---- mixing, knotting

    public int mix(int head, int light, int n, int k) {
        if (!isHead(head) || !isLight(light) || !within(k, -1, MOST_MIXED - 1)) {
            return NONE;
        }
        if (!within(n, 1, MOST_MIXED)) {
            return BAD;
        }
        fillTones(now, head, light);
        mixing.seek(n, n * now.heads[head].hers, tones, now.stock);
        if (!mixing.found || k >= n) {
            return NOT_ANY;
        }
        return k < 0 ? mixing.apart : mixing.best[k];
    }

    public int inTime(int pace) {
        if (!within(pace, 1, 9)) {
            return BAD;
        }
        for (int p = 0; p < now.count; p++) {
            int missing = CELLS - now.heads[p].hairs();
            needs[p] = (missing + pace - 1) / pace;
        }
        int best = 0;
        for (int bits = 1; bits < 1 << now.count; bits++) {
            if (Integer.bitCount(bits) > Integer.bitCount(best) && areInTime(bits)) {
                best = bits;
            }
        }
        return best;
    }

    // ---- seen, odds

    public int see(int head, int light, int off) {
        if (head == -1) {
            now.seen.count = 0;
            return 0;
        }
        if (!isHead(head) || !isLight(light)) {
            return NONE;
        }
        if (!within(off, 0, 9999)) {
            return BAD;
        }
        return now.seen.add(MOST_SEEN, head, light, off);
    }

    public int wrong() {
        return firstFalse(now, FREE);
    }

    public int can(int head, int which, int what) {
        if (!isHead(head) || !within(which, 0, 1) || !within(what, 0, 1)) {
            return NONE;
        }
        return which == 0 ? wanted(head, what) : possible(head, what);
    }

    public long odds(int head, int light, int part) {
        if (!isHead(head) || !isLight(light) || !within(part, 0, 1)) {
            return NO;
        }
        Head one = now.heads[head];
        fillTones(now, head, light);
        int off = one.off(tones, FREE);
        int better = 0;
        for (int drawer = 0; drawer < DRAWERS; drawer++) {
            if (one.off(tones, drawer) < off) {
                better++;
            }
        }
        return lowest(better, DRAWERS, part);
    }

    public long mean(int light, int part) {
        if (!isLight(light) || !within(part, 0, 1) || now.count == 0) {
            return NO;
        }
        int sum = 0;
        for (int p = 0; p < now.count; p++) {
            sum += offBy(now, p, light);
        }
        return lowest(sum, now.count, part);
    }

    // ---- plans, books

    public int plan(int what, int head) {
        if (what == -1) {
            now.plan.count = 0;
            return 0;
        }
        if (!within(what, 0, 3) || what != 0 && !isHead(head)) {
            return NONE;
        }
        return now.plan.add(MOST_PLAN, what, head, 0);
    }

    public int ends(int what) {
        if (!within(what, 0, 1)) {
            return NONE;
        }
        trial.copy(now);
        for (int i = 0; i < now.plan.count; i++) {
            goRow(now.plan.first[i], now.plan.second[i]);
        }
        return what == 0 ? trial.fallen : trial.hairs();
    }

    public int book(int drawer, int stock) {
        if (drawer == -1) {
            now.book.count = 0;
            return 0;
        }
        if (!isDrawer(drawer)) {
            return NONE;
        }
        if (!within(stock, 0, 99)) {
            return BAD;
        }
        return now.book.add(MOST_BOOK, drawer, stock, 0);
    }

    public int looked() {
        for (int i = 0; i < now.book.count; i++) {
            if (now.stock[now.book.first[i]] != now.book.second[i]) {
                return i;
            }
        }
        return NOT_ANY;
    }

    // ---- judging, the image, acts, tapes

    public int judge(int tape, int i) {
        if (!isTape(tape)) {
            return NONE;
        }
        Tape row = tapes[tape];
        if (row.sort != FREE && row.sort != INTS) {
            return CAST;
        }
        for (int drawer = 0; drawer < DRAWERS; drawer++) {
            if (i < 0 || i >= row.length - drawer) {
                return 100 + drawer;
            }
            if (row.items[i + drawer] != now.stock[drawer]) {
                return drawer;
            }
        }
        return NOT_ANY;
    }

    public int image() {
        imaged.copy(now);
        hasImage = true;
        return now.count;
    }

    public int undo() {
        if (!hasImage) {
            return STATE;
        }
        now.copy(imaged);
        return now.count;
    }

    public int act(int head, int act, int x) {
        acts.ran = 0;
        if (!isHead(head) || !within(act, 0, 2)) {
            return 0;
        }
        Head one = now.heads[head];
        acts.number = head;
        acts.kind = one.kind;
        acts.v = one.v;
        int[] bodies = act == 0 ? CURLS : act == 1 ? NODS : TELLS;
        return Acts.run(acts, bodies[one.kind], x, 0);
    }

    public int trace(int i) {
        return i >= 0 && i < acts.ran && i < MOST_KEPT ? acts.kept[i] : NONE;
    }

    public int taken(int head, int k) {
        if (!within(k, HEAD, TOLD)) {
            return BAD;
        }
        if (!isHead(head)) {
            return NOTHING;
        }
        int kind = now.heads[head].kind;
        return isUnder(kind, k) ? kind : CAST;
    }

    public int count(int what) {
        switch (what) {
            case 0: return now.count;
            case 1: return theatreCount;
            case 2: return now.seen.count;
            case 3: return now.plan.count;
            case 4: return now.book.count;
            case 5: return text.length;
            case 6: return acts.ran;
            default: return BAD;
        }
    }

    public int tape(int tape, int sort, int n) {
        if (!isTape(tape)) {
            return NONE;
        }
        if (sort == FREE) {
            tapes[tape].become(FREE, 0);
            return 1;
        }
        if (!within(sort, BYTES, BOOLEANS) || n > MOST_ITEMS) {
            return BAD;
        }
        if (n < 0) {
            return SIZE;
        }
        tapes[tape].become(sort, n);
        return 1;
    }

    public int item(int tape, int i, long v) {
        if (!isTape(tape)) {
            return NONE;
        }
        Tape row = tapes[tape];
        if (row.sort == FREE) {
            return NOTHING;
        }
        if (!within(i, 0, row.length - 1)) {
            return PLACE;
        }
        row.items[i] = row.fitted(v);
        return 1;
    }

    public long read(int tape, int i) {
        if (!isTape(tape) || !within(i, 0, tapes[tape].length - 1)) {
            return NO;
        }
        return tapes[tape].items[i];
    }

    public int shift(int tape, int i, int other, int j, int n) {
        if (!isTape(tape) || !isTape(other)) {
            return NONE;
        }
        Tape from = tapes[tape];
        Tape to = tapes[other];
        if (from.sort == FREE || to.sort == FREE) {
            return NOTHING;
        }
        if (from.sort != to.sort) {
            return CAST;
        }
        if (n < 0 || !within(i, 0, from.length - n) || !within(j, 0, to.length - n)) {
            return PLACE;
        }
        System.arraycopy(from.items, i, to.items, j, n);
        return n;
    }

    // ---- numbers that there are

    private static boolean within(int n, int least, int most) {
        return n >= least && n <= most;
    }

    private static int bit(boolean is) {
        return is ? 1 : 0;
    }

    private boolean isHead(int head) {
        return within(head, 0, now.count - 1);
    }

    private static boolean isDrawer(int drawer) {
        return within(drawer, 0, DRAWERS - 1);
    }

    private static boolean isLight(int light) {
        return within(light, LAMP, DAY);
    }

    private static boolean isTape(int tape) {
        return within(tape, 0, TAPES - 1);
    }

    private static boolean isUnder(int kind, int above) {
        int one = kind;
        for (int step = 0; step < ABOVE.length && one != FREE; step++) {
            if (one == above) {
                return true;
            }
            one = ABOVE[one];
        }
        return false;
    }

    // ---- shades

    private Theatre stage(Shop shop) {
        return within(shop.holds, 0, theatreCount - 1) ? theatres[shop.holds] : bare;
    }

    /** SHADE of a DRAWER on a HEAD by a LIGHT. */
    private int tone(Shop shop, int p, int drawer, int light) {
        Head one = shop.heads[p];
        letters[0] = p;
        letters[1] = one.kind;
        letters[2] = one.v;
        letters[3] = drawer;
        letters[4] = light;
        letters[5] = shop.night % 10;
        int plain = light == LAMP ? shop.lamp[drawer] : shop.day[drawer];
        return one.tone(plain + stage(shop).warmth(letters), drawer, light, shop.night);
    }

    private void fillTones(Shop shop, int p, int light) {
        for (int drawer = 0; drawer < DRAWERS; drawer++) {
            tones[drawer] = tone(shop, p, drawer, light);
        }
    }

    private int offBy(Shop shop, int p, int light) {
        fillTones(shop, p, light);
        return shop.heads[p].off(tones, FREE);
    }

    private int near(int p) {
        int hers = now.heads[p].hers;
        int best = NOT_ANY;
        int least = Integer.MAX_VALUE;
        for (int drawer = 0; drawer < DRAWERS; drawer++) {
            int byLamp = Math.abs(tone(now, p, drawer, LAMP) - hers);
            int byDay = Math.abs(tone(now, p, drawer, DAY) - hers);
            int apart = Math.max(byLamp, byDay);
            if (now.stock[drawer] > 0 && apart < least) {
                best = drawer;
                least = apart;
            }
        }
        return best;
    }

    // ---- nights and plans

    private void goNights(Shop shop, int n, int mostFallen) {
        int rain = stage(shop).rain;
        for (int i = 0; i < n; i++) {
            shop.goNight(rain, mostFallen);
        }
    }

    private int bald(int p) {
        trial.copy(now);
        for (int nights = 0; nights <= MOST_NIGHTS; nights++) {
            if (trial.heads[p].hairs() == 0) {
                return nights;
            }
            goNights(trial, 1, Integer.MAX_VALUE);
        }
        return NOT_ANY;
    }

    /** A row of the PLAN goes, on trial. */
    private void goRow(int what, int p) {
        if (what == 0) {
            goNights(trial, 1, Integer.MAX_VALUE);
        } else if (within(p, 0, trial.count - 1)) {
            if (what == 1) {
                trial.heads[p].shear();
            } else {
                trial.heads[p].shelved = what == 2;
            }
        }
    }

    // ---- in time

    private boolean areInTime(int bits) {
        for (int p = 0; p < now.count; p++) {
            if ((bits >> p & 1) == 1 && nightsUpTo(p, bits) > now.heads[p].due) {
                return false;
            }
        }
        return true;
    }

    /** How many nights a HEAD and those of the set that are ahead of it take. */
    private int nightsUpTo(int p, int bits) {
        int due = now.heads[p].due;
        int nights = 0;
        for (int q = 0; q < now.count; q++) {
            int other = now.heads[q].due;
            boolean isBehind = other > due || other == due && q > p;
            if ((bits >> q & 1) == 1 && !isBehind) {
                nights += needs[q];
            }
        }
        return nights;
    }

    // ---- what was seen

    /** The first row of SEEN that is of a HEAD (FREE: of any) and is not so. */
    private int firstFalse(Shop shop, int p) {
        Rows seen = shop.seen;
        for (int i = 0; i < seen.count; i++) {
            boolean isOfIt = p == FREE || seen.first[i] == p;
            if (isOfIt && offBy(shop, seen.first[i], seen.second[i]) != seen.third[i]) {
                return i;
            }
        }
        return NOT_ANY;
    }

    /** WANTED of a HEAD: how many, or the least. */
    private int wanted(int p, int what) {
        // What HERS is does not change the SHADES (a PARTING's by lamp aside): they are added up once.
        for (int i = 0; i < now.seen.count; i++) {
            if (now.seen.first[i] == p) {
                fillTones(now, p, now.seen.second[i]);
                together[i] = now.heads[p].together(tones, FREE);
            }
        }
        int many = 0;
        int least = NOT_ANY;
        for (int hers = 99; hers >= 0; hers--) {
            if (canBeHers(p, hers)) {
                many++;
                least = hers;
            }
        }
        return what == 0 ? many : least;
    }

    private boolean canBeHers(int p, int hers) {
        Head one = now.heads[p];
        int asOften = hers * one.hairs();
        for (int i = 0; i < now.seen.count; i++) {
            if (now.seen.first[i] == p) {
                int shades = one.isHersBy(now.seen.second[i]) ? asOften : together[i];
                if (Math.abs(shades - asOften) != now.seen.third[i]) {
                    return false;
                }
            }
        }
        return true;
    }

    /** CAN of a HEAD: how many, or the least. */
    private int possible(int p, int what) {
        trial.copy(now);
        int many = 0;
        int least = NOT_ANY;
        for (int v = 9; v >= 0; v--) {
            trial.heads[p].v = v;
            if (firstFalse(trial, p) == NOT_ANY) {
                many++;
                least = v;
            }
        }
        return what == 0 ? many : least;
    }

    // ---- fractions

    /** A part of above / below in lowest terms; below is above 0. */
    private static long lowest(int above, int below, int part) {
        int divisor = Math.max(1, common(above, below));
        return part == 0 ? above / divisor : below / divisor;
    }

    /** The greatest common divisor; the steps are far more than two ints can need. */
    private static int common(int one, int other) {
        int a = one;
        int b = other;
        for (int step = 0; step < 1000 && b != 0; step++) {
            int rest = a % b;
            a = b;
            b = rest;
        }
        return a;
    }

    // ---- what is held

    /** A HEAD. */
    private static final class Head {
        int kind, v, hers, due;
        boolean shelved;
        final int[] row = new int[PARTS];
        /** The DRAWER of the hair in each CELL, or FREE. */
        final int[] hair = new int[CELLS];
        /** 0 where there is none. */
        final int[] tight = new int[CELLS];

        void begin(int asKind, int asV, int asHers) {
            kind = asKind;
            v = asV;
            hers = asHers;
            due = 30;
            shelved = false;
            for (int part = 0; part < PARTS; part++) {
                row[part] = 0;
            }
            shear();
        }

        void copy(Head other) {
            kind = other.kind;
            v = other.v;
            hers = other.hers;
            due = other.due;
            shelved = other.shelved;
            System.arraycopy(other.row, 0, row, 0, PARTS);
            System.arraycopy(other.hair, 0, hair, 0, CELLS);
            System.arraycopy(other.tight, 0, tight, 0, CELLS);
        }

        void shear() {
            for (int cell = 0; cell < CELLS; cell++) {
                lose(cell);
            }
        }

        private void lose(int cell) {
            hair[cell] = FREE;
            tight[cell] = 0;
        }

        int hairs() {
            int many = 0;
            for (int cell = 0; cell < CELLS; cell++) {
                if (hair[cell] != FREE) {
                    many++;
                }
            }
            return many;
        }

        /** Each hair is so much less TIGHT: how many fall out. */
        int loosen(int by) {
            int lost = 0;
            for (int cell = 0; cell < CELLS; cell++) {
                if (hair[cell] != FREE) {
                    tight[cell] -= by;
                    if (tight[cell] <= 0) {
                        lose(cell);
                        lost++;
                    }
                }
            }
            return lost;
        }

        boolean isHersBy(int light) {
            return kind == PARTING && light == LAMP;
        }

        /** The SHADE that this KIND makes of a SUM. */
        int tone(int sum, int drawer, int light, int night) {
            switch (kind) {
                case FRONT: return byFront(sum, light);
                case BACK: return sum / 2;
                case OLD: return sum - Math.min(night, 20);
                case PARTING: return isHersBy(light) ? hers : byFront(sum, light);
                case NAPE: return sum / 2 + 10;
                case TOLD: return sum - Math.min(night, 20) + row[drawer % PARTS];
                default: return sum;
            }
        }

        private int byFront(int sum, int light) {
            return light == DAY ? sum + v : sum;
        }

        /** The SHADES of all hairs but those out of one DRAWER (FREE: of all). */
        int together(int[] tones, int without) {
            int sum = 0;
            for (int cell = 0; cell < CELLS; cell++) {
                if (hair[cell] != FREE && hair[cell] != without) {
                    sum += tones[hair[cell]];
                }
            }
            return sum;
        }

        /** OFF, if the hairs out of one DRAWER are out (FREE: if none are). */
        int off(int[] tones, int without) {
            int asOften = 0;
            for (int cell = 0; cell < CELLS; cell++) {
                if (hair[cell] != FREE && hair[cell] != without) {
                    asOften += hers;
                }
            }
            return Math.abs(together(tones, without) - asOften);
        }
    }

    /** Rows told by hand: SEEN, the PLAN, the BOOK. */
    private static final class Rows {
        int count;
        final int[] first = new int[MOST_ROWS];
        final int[] second = new int[MOST_ROWS];
        final int[] third = new int[MOST_ROWS];

        int add(int most, int a, int b, int c) {
            if (count >= most || count >= MOST_ROWS) {
                return FULL;
            }
            first[count] = a;
            second[count] = b;
            third[count] = c;
            count++;
            return count;
        }

        void copy(Rows other) {
            count = other.count;
            System.arraycopy(other.first, 0, first, 0, MOST_ROWS);
            System.arraycopy(other.second, 0, second, 0, MOST_ROWS);
            System.arraycopy(other.third, 0, third, 0, MOST_ROWS);
        }
    }

    /** All that THE IMAGE holds. */
    private static final class Shop {
        final int[] lamp = new int[DRAWERS];
        final int[] day = new int[DRAWERS];
        final int[] stock = new int[DRAWERS];
        final Head[] heads = new Head[HEADS];
        int count;
        int night;
        int fallen;
        /** Which THEATRE holds, or FREE. */
        int holds = FREE;
        final Rows seen = new Rows();
        final Rows plan = new Rows();
        final Rows book = new Rows();

        Shop() {
            for (int drawer = 0; drawer < DRAWERS; drawer++) {
                lamp[drawer] = 10 * drawer;
                day[drawer] = 10 * drawer;
                stock[drawer] = 10;
            }
            for (int p = 0; p < HEADS; p++) {
                heads[p] = new Head();
            }
        }

        void copy(Shop other) {
            System.arraycopy(other.lamp, 0, lamp, 0, DRAWERS);
            System.arraycopy(other.day, 0, day, 0, DRAWERS);
            System.arraycopy(other.stock, 0, stock, 0, DRAWERS);
            count = other.count;
            for (int p = 0; p < count; p++) {
                heads[p].copy(other.heads[p]);
            }
            night = other.night;
            fallen = other.fallen;
            holds = other.holds;
            seen.copy(other.seen);
            plan.copy(other.plan);
            book.copy(other.book);
        }

        int hairs() {
            int many = 0;
            for (int p = 0; p < count; p++) {
                many += heads[p].hairs();
            }
            return many;
        }

        void goNight(int rain, int mostFallen) {
            int by = rain > 0 && night % rain == 0 ? 2 : 1;
            for (int p = 0; p < count; p++) {
                if (!heads[p].shelved) {
                    fallen = Math.min(mostFallen, fallen + heads[p].loosen(by));
                }
            }
            night++;
        }
    }

    /**
     * A THEATRE: its warm and cool CLAUSES, and RAIN. Each E is kept as steps, parts ahead of what
     * joins them, so that whether it holds is told without going down into it again.
     */
    private static final class Theatre {
        static final int NOT = -1, AND = -2, OR = -3;

        int rain;
        int clauses;
        int length;
        /** n of each CLAUSE, below 0 if it cools. */
        final int[] weight = new int[MOST_CLAUSES];
        /** The step behind each CLAUSE's last. */
        final int[] end = new int[MOST_CLAUSES];
        /** NOT, AND, OR, or a TEST's number. */
        final int[] steps = new int[MOST_TEXT];

        void clear() {
            rain = 0;
            clauses = 0;
            length = 0;
        }

        void addStep(int step) {
            if (length < MOST_TEXT) {
                steps[length] = step;
                length++;
            }
        }

        /** A TEST as a step; isTrue takes it apart again. */
        static int testOf(int letter, int sign, int n) {
            return (letter * 3 + sign) * 100 + n;
        }

        void endClause(int n) {
            if (clauses < MOST_CLAUSES) {
                weight[clauses] = n;
                end[clauses] = length;
                clauses++;
            }
        }

        /** The n of all that warms, less those of all that cools. */
        int warmth(int[] letters) {
            int sum = 0;
            int clause = 0;
            // A bit for each part that is not joined yet: two at most for each ( that is open, and one.
            int open = 0;
            for (int i = 0; i < length && clause < clauses; i++) {
                int step = steps[i];
                if (step == NOT) {
                    open ^= 1;
                } else if (step == AND) {
                    open = open >> 2 << 1 | open >> 1 & open & 1;
                } else if (step == OR) {
                    open = open >> 2 << 1 | (open >> 1 | open) & 1;
                } else {
                    open = open << 1 | (isTrue(step, letters) ? 1 : 0);
                }
                if (i + 1 == end[clause]) {
                    sum += (open & 1) * weight[clause];
                    open = 0;
                    clause++;
                }
            }
            return sum;
        }

        private boolean isTrue(int test, int[] letters) {
            int letter = test / 300;
            if (letter < 0 || letter >= letters.length) {
                return false;
            }
            int value = letters[letter];
            int n = test % 100;
            switch (test / 100 % 3) {
                case 0: return value < n;
                case 1: return value == n;
                default: return value > n;
            }
        }
    }

    /** THE TEXT, and how it is read: at is the place of the byte that is next. */
    private static final class Text {
        static final String WARM = "warm", COOL = "cool", RAIN = "rain", LETTERS = "pkvcln", SIGNS = "<=>";

        final byte[] bytes = new byte[MOST_TEXT];
        int length;
        int at;

        /** THE TEXT is read as a THEATRE: the FAULT, or -1. */
        static int faultOf(Text text, Theatre into) {
            text.at = 0;
            into.clear();
            for (int clause = 0; clause < MOST_CLAUSES; clause++) {
                if (clause > 0 && !text.takes(';')) {
                    return text.at;
                }
                if (!takesClause(text, into)) {
                    return text.at;
                }
                if (text.at >= text.length) {
                    return -1;
                }
            }
            return text.at;
        }

        private boolean takes(int sign) {
            if (at >= length || bytes[at] != sign) {
                return false;
            }
            at++;
            return true;
        }

        /** A word and the blank behind it. */
        private boolean takesWord(String word) {
            for (int i = 0; i < word.length(); i++) {
                if (!takes(word.charAt(i))) {
                    return false;
                }
            }
            return takes(' ');
        }

        /** Which of these signs is next; -1: none. */
        private int takesOneOf(String signs) {
            int which = at < length ? signs.indexOf((char) bytes[at]) : -1;
            if (which >= 0) {
                at++;
            }
            return which;
        }

        /** A number of one or two digits; -1: there is none. */
        private int takesNumber() {
            int n = -1;
            for (int digits = 0; digits < 2 && at < length && bytes[at] >= '0' && bytes[at] <= '9'; digits++) {
                n = Math.max(0, n) * 10 + bytes[at] - '0';
                at++;
            }
            return n;
        }

        private static boolean takesClause(Text text, Theatre into) {
            int sign = text.at < text.length ? text.bytes[text.at] : -1;
            if (sign == 'r') {
                return takesRain(text, into);
            }
            if (!text.takesWord(sign == 'w' ? WARM : COOL)) {
                return false;
            }
            int n = text.takesNumber();
            if (n < 0 || !text.takes(' ') || !takesE(text, into, 0)) {
                return false;
            }
            into.endClause(sign == 'w' ? n : -n);
            return true;
        }

        private static boolean takesRain(Text text, Theatre into) {
            if (!text.takesWord(RAIN)) {
                return false;
            }
            int n = text.takesNumber();
            into.rain = n;
            return n >= 0;
        }

        /** E, within so many ( and !. */
        private static boolean takesE(Text text, Theatre into, int depth) {
            boolean is = takesT(text, into, depth);
            for (int i = 0; i < MOST_TEXT && is && text.takes('|'); i++) {
                is = takesT(text, into, depth);
                into.addStep(Theatre.OR);
            }
            return is;
        }

        private static boolean takesT(Text text, Theatre into, int depth) {
            boolean is = takesF(text, into, depth);
            for (int i = 0; i < MOST_TEXT && is && text.takes('&'); i++) {
                is = takesF(text, into, depth);
                into.addStep(Theatre.AND);
            }
            return is;
        }

        private static boolean takesF(Text text, Theatre into, int depth) {
            if (depth < MOST_DEPTH && text.takes('!')) {
                boolean is = takesF(text, into, depth + 1);
                into.addStep(Theatre.NOT);
                return is;
            }
            if (depth < MOST_DEPTH && text.takes('(')) {
                return takesE(text, into, depth + 1) && text.takes(')');
            }
            int letter = text.takesOneOf(LETTERS);
            int sign = letter < 0 ? -1 : text.takesOneOf(SIGNS);
            int n = sign < 0 ? -1 : text.takesNumber();
            if (n < 0) {
                return false;
            }
            into.addStep(Theatre.testOf(letter, sign, n));
            return true;
        }
    }

    /** The rows of DRAWERS that are tried for a MIX, and the best one. */
    private static final class Mixing {
        /** As many rows of four DRAWERS there are, none less than the one ahead of it. */
        static final int MOST = 330;

        final int[] row = new int[MOST_MIXED];
        final int[] best = new int[MOST_MIXED];
        int apart;
        boolean found;

        void seek(int n, int wanted, int[] tones, int[] stock) {
            found = false;
            for (int k = 0; k < MOST_MIXED; k++) {
                row[k] = 0;
            }
            boolean more = true;
            for (int tried = 0; tried < MOST && more; tried++) {
                if (hasStock(n, stock)) {
                    weigh(n, wanted, tones);
                }
                more = goOn(n);
            }
        }

        private boolean hasStock(int n, int[] stock) {
            int alike = 0;
            for (int k = 0; k < n; k++) {
                alike = k > 0 && row[k] == row[k - 1] ? alike + 1 : 1;
                if (alike > stock[row[k]]) {
                    return false;
                }
            }
            return true;
        }

        private void weigh(int n, int wanted, int[] tones) {
            int sum = 0;
            for (int k = 0; k < n; k++) {
                sum += tones[row[k]];
            }
            int much = Math.abs(sum - wanted);
            if (!found || much < apart) {
                found = true;
                apart = much;
                System.arraycopy(row, 0, best, 0, MOST_MIXED);
            }
        }

        /** The row becomes the one behind it, if there is one. */
        private boolean goOn(int n) {
            for (int k = n - 1; k >= 0; k--) {
                if (row[k] < DRAWERS - 1) {
                    int drawer = row[k] + 1;
                    for (int behind = k; behind < n; behind++) {
                        row[behind] = drawer;
                    }
                    return true;
                }
            }
            return false;
        }
    }

    /** THE TRACE, and the HEAD whose ACT runs. */
    private static final class Acts {
        /** Above what any KIND's bodies need. */
        static final int MOST_OPEN = 20;

        final int[] kept = new int[MOST_KEPT];
        int ran;
        int number, kind, v;

        private void begins(int body) {
            if (ran < MOST_KEPT) {
                kept[ran] = body;
            }
            ran++;
        }

        /** Runs a body. What stands in it is found in the rows by the KIND, or, for super, by the one above. */
        private static int run(Acts acts, int body, int x, int depth) {
            if (depth >= MOST_OPEN || !within(acts.kind, HEAD, TOLD)) {
                return 0;
            }
            acts.begins(body);
            int down = depth + 1;
            switch (body) {
                case 11: return run(acts, CURLS[acts.kind], x, down) - acts.v;
                case 12: return run(acts, NODS[acts.kind], x, down) * 2;
                case 20: return run(acts, NODS[HEAD], x, down) ^ 6;
                case 30: return run(acts, CURLS[HEAD], x * 3, down);
                case 40: return run(acts, TELLS[HEAD], x, down) + run(acts, NODS[acts.kind], 1, down);
                case 50: return -run(acts, CURLS[FRONT], x, down);
                case 51: return run(acts, NODS[FRONT], x + 1, down);
                case 60: return run(acts, TELLS[BACK], x - acts.number, down);
                case 70: return run(acts, NODS[OLD], x, down) + run(acts, CURLS[OLD], 2, down);
                case 71: return run(acts, CURLS[OLD], x, down) ^ acts.v;
                default: return x + acts.number;
            }
        }
    }

    /** A TAPE: a row of items of a sort, or nothing (sort FREE). */
    private static final class Tape {
        int sort = FREE;
        int length;
        final long[] items = new long[MOST_ITEMS];

        void become(int asSort, int n) {
            sort = asSort;
            length = n;
            for (int i = 0; i < MOST_ITEMS; i++) {
                items[i] = 0;
            }
        }

        /** What is left of a number as an item of this sort. */
        long fitted(long v) {
            switch (sort) {
                case BYTES: return (byte) v;
                case SHORTS: return (short) v;
                case INTS: return (int) v;
                case BOOLEANS: return bit(v != 0);
                default: return v;
            }
        }
    }
}
