import java.util.LinkedHashMap;
import java.util.Map;

/** All that an object holds, fact by fact, by name. An object is used up by that: its ROWS, THE TEXT, its IMAGE. */
final class Facts {
    private static final int PLACES = 11;

    private final HairAtATime x;
    private final Map<String, Long> all = new LinkedHashMap<>();

    private Facts(HairAtATime x) {
        this.x = x;
    }

    static Map<String, Long> of(HairAtATime x) {
        Facts facts = new Facts(x);
        facts.counts();
        facts.drawers();
        for (int p = 0; p < 6; p++) {
            facts.head(p);
        }
        facts.tapes();
        facts.asked();
        facts.rows();
        facts.text();
        facts.image();
        return facts.all;
    }

    private void is(String name, long value) {
        all.put(name, value);
    }

    private void counts() {
        String[] names = {"HEADS", "THEATRES", "SEEN", "PLAN", "BOOK", "TEXT", "bodies"};
        for (int what = 0; what < names.length; what++) {
            is(names[what], x.count(what));
        }
        for (int i = 0; i < 13; i++) {
            is("trace " + i, x.trace(i));
        }
    }

    private void drawers() {
        is("NIGHT", x.told(0));
        is("RAIN", x.told(1));
        is("FALLEN", x.told(2));
        for (int d = 0; d < 8; d++) {
            is("STOCK " + d, x.told(10 + d));
            is("lamp " + d, x.told(20 + d));
            is("day " + d, x.told(30 + d));
        }
    }

    private void head(int p) {
        String[] names = {"KIND", "v", "HERS", "DUE", "SHELVED"};
        for (int what = 0; what < names.length; what++) {
            is(names[what] + " " + p, x.of(p, what));
        }
        for (int c = 0; c < 8; c++) {
            is("hair " + p + " " + c, x.of(p, 10 + c));
            is("tight " + p + " " + c, x.of(p, 20 + c));
        }
    }

    private void tapes() {
        for (int tape = 0; tape < 6; tape++) {
            for (int i = 0; i < PLACES; i++) {
                is("item " + tape + " " + i, x.read(tape, i));
            }
            for (int other = tape + 1; other < 6; other++) {
                is("alike " + tape + " " + other, x.shift(tape, 0, other, 0, 0));
            }
            is("ints " + tape, x.judge(tape, -1));
        }
    }

    private void asked() {
        is("FALSE", x.wrong());
        is("LOOKED", x.looked());
        is("ENDS FALLEN", x.ends(0));
        is("ENDS hairs", x.ends(1));
    }

    private void rows() {
        for (int p = 0; p < 6; p++) {
            for (int part = 0; part < 4; part++) {
                is("ROW " + p + " " + part, x.row(p, part, 0));
            }
        }
    }

    /** What THE TEXT becomes, if it goes on so. */
    private void text() {
        Checks.feed(x, "rm 7 p<9&c>3;rain 5");
        is("theatre", x.theatre());
        is("its RAIN", x.told(1));
    }

    private void image() {
        is("image", x.undo());
        is("image NIGHT", x.told(0));
        is("image RAIN", x.told(1));
        is("image FALLEN", x.told(2));
        is("image STOCK", x.told(12));
        is("image HERS", x.of(1, 2));
        is("image hair", x.of(0, 14));
        is("image SEEN", x.count(2));
        is("image PLAN", x.count(3));
        is("image BOOK", x.count(4));
    }
}
