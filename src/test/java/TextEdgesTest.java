/** Terms 1, THE TEXT: each sentence on a THEATRE's text that names an edge, with answers worked out by hand. */
final class TextEdgesTest {
    private static final Edges EDGES = new Edges("TextEdgesTest");
    private static HairAtATime x;

    private static void due(String what, long want, long got) {
        EDGES.due("term 1: " + what, want, got);
    }

    private static int made(String text) {
        x = new HairAtATime();
        return Checks.theatre(x, text);
    }

    private static void right(String text) {
        due("right: " + text, 0, made(text));
    }

    /** What stands ahead begins a THEATRE; the byte behind that, or the end of THE TEXT, is the FAULT. */
    private static void fault(String begins, String rest) {
        due("the FAULT of " + begins + rest, -10 - begins.length(), made(begins + rest));
    }

    /** "THE TEXT (bytes, 100 at most)" */
    private static void atMost100Bytes() {
        due("a text of 100 bytes", 100, Edges.FULL_TEXT.length());
        right(Edges.FULL_TEXT);
        right("warm 1 " + "p=9|".repeat(22) + "p=00");
        right("warm 11 " + "p=9|".repeat(22) + "p=0");
        // 100 bytes that end too early: behind each of the parts that there are
        fault("warm 11 " + "p=9|".repeat(23), "");
        fault("warm 1 " + "p=9|".repeat(23) + "p", "");
        fault("rain 1;".repeat(9) + "warm 1 " + "!!!(" + "p=9&".repeat(6) + "p=", "");
        String[] ends = {";", "&", "|", "&!", "&(", "&p", "&p=", "&(p=1", ";w", ";warm", ";warm ", ";warm 1", ";warm 1 ",
            ";c", ";cool ", ";cool 12", ";r", ";rain", ";rain ", ";warm 1 p<", ";warm 1 !"};
        for (String end : ends) {
            fault(ofLength(100 - end.length()) + end, "");
            fault(ofLength(99 - end.length()) + end, "");
            fault(ofLength(99 - end.length()) + end, "^");
        }
        fault(ofLength(99), "^");
        fault(ofLength(97), "\nrai");
    }

    /** A right text that has so many bytes, and could go on. */
    private static String ofLength(int n) {
        String[] begun = {"warm 1 p=9", "warm 11 p=9", "warm 11 p=90", "warm 11 !p=90"};
        String text = begun[(n - 10) % 4];
        return text + "|p=9".repeat((n - text.length()) / 4);
    }

    /** "CLAUSES, 1 to 10, with ; between" */
    private static void oneToTenClauses() {
        fault("", "");
        fault("", ";");
        fault("", ";rain 1");
        right("rain 1");
        fault("rain 1;", "");
        fault("rain 1;", ";rain 2");
        fault("rain 1", ",rain 2");
        fault("rain 1", " ;rain 2");
        fault("rain 1;", " rain 2");
        fault("rain 1", "rain 2");
        right("rain 1;rain 2");
        String nine = "rain 1;".repeat(8) + "rain 2";
        right(nine);
        right(nine + ";rain 3");
        due("the tenth one's RAIN", 3, x.told(1));
        fault(nine + ";rain 3", ";");
        fault(nine + ";rain 3", ";rain 4");
        fault(nine + ";warm 3 p<9", ";rain 4");
    }

    /** "warm n E; cool n E; rain n (one blank ahead of each part behind the word ..)" */
    private static void wordsAndBlanks() {
        for (String word : new String[] {"warm", "cool"}) {
            right(word + " 1 p<9");
            for (int n = 1; n <= 4; n++) {
                fault(word.substring(0, n), "");
                fault(word.substring(0, n - 1), "z" + word.substring(n) + " 1 p<9");
            }
            fault(word, "1 p<9");
            fault(word, "\t1 p<9");
            fault(word, "s 1 p<9");
            fault(word + " ", "");
            fault(word + " ", " 1 p<9");
            fault(word + " ", "p<9");
            fault(word + " ", "-1 p<9");
            fault(word + " 1", "");
            fault(word + " 1", "p<9");
            fault(word + " 1", ";rain 1");
            fault(word + " 1 ", "");
            fault(word + " 1 ", " p<9");
            fault(word + " 1 ", ";rain 1");
            fault(word + " 1 p<9", " ");
        }
        fault("", "Warm 1 p<9");
        fault("", " warm 1 p<9");
        fault("c", "arm 1 p<9");
        fault("", "ain 1");
        for (int n = 1; n <= 4; n++) {
            fault("rain".substring(0, n), "");
            fault("rain".substring(0, n - 1), "z" + "rain".substring(n) + " 1");
        }
        fault("rain", "1");
        fault("rain ", "");
        fault("rain ", " 1");
        fault("rain ", "x");
        fault("rain 1", " ");
        fault("rain 1", " p<9");
    }

    /** "n 1 or 2 digits" */
    private static void oneOrTwoDigits() {
        String[] right = {"0", "9", "00", "09", "10", "99"};
        int[] n = {0, 9, 0, 9, 10, 99};
        for (int i = 0; i < n.length; i++) {
            right("rain " + right[i]);
            due("RAIN of " + right[i], n[i], x.told(1));
            right("warm " + right[i] + " p<9");
            x.head(0, 0, 0);
            due("warmer by " + right[i], 10 + n[i], x.shade(0, 1, 0));
            right("cool " + right[i] + " p<9");
            x.head(0, 0, 0);
            due("cooler by " + right[i], 10 - n[i], x.shade(0, 1, 0));
        }
        fault("rain 12", "3");
        fault("rain 00", "0");
        fault("warm 12", "3 p<9");
        fault("cool 12", "3 p<9");
        fault("cool 1 p<12", "3");
    }

    /** "E: T or T|E. T: F or F&T. F: !F, (E), or a TEST" */
    private static void partsOfE() {
        right("warm 1 p<9|p<9");
        right("warm 1 p<9&p<9");
        right("warm 1 !p<9");
        right("warm 1 (p<9)");
        right("warm 1 p<9|p<9&p<9|p<9");
        fault("warm 1 ", "|p<9");
        fault("warm 1 ", "&p<9");
        fault("warm 1 p<9|", "");
        fault("warm 1 p<9&", "");
        fault("warm 1 p<9|", "|p<9");
        fault("warm 1 p<9&", "&p<9");
        fault("warm 1 p<9|", "&p<9");
        fault("warm 1 p<9", " |p<9");
        fault("warm 1 p<9|", " p<9");
        fault("warm 1 p<9|", ";rain 1");
        fault("warm 1 !", "");
        fault("warm 1 !", "|p<9");
        fault("warm 1 !", ")");
        fault("warm 1 p<9", "!");
        fault("warm 1 ", ")");
        fault("warm 1 (", "");
        fault("warm 1 (", ")");
        fault("warm 1 (p<9", "");
        fault("warm 1 (p<9", ";rain 1");
        fault("warm 1 (p<9|", ")");
        fault("warm 1 (p<9)", ")");
        fault("warm 1 (p<9)", "(p<9)");
        fault("warm 1 (p<9)", "p<9");
        fault("warm 1 p<9", "p<9");
        fault("warm 1 p<9", "(p<9)");
    }

    private static boolean isOneOf(char sign, String signs) {
        return signs.indexOf(sign) >= 0;
    }

    /** "a TEST: a letter, < or = or >, a number (1 or 2 digits)": of all signs that there are. */
    private static void eachSign() {
        for (char sign = 0; sign < 128; sign++) {
            boolean isDigit = sign >= '0' && sign <= '9';
            if (isOneOf(sign, "pkvcln")) {
                right("warm 1 " + sign + "<9");
            } else if (isOneOf(sign, "!(")) {
                fault("warm 1 " + sign, "<9");
            } else {
                fault("warm 1 ", sign + "<9");
            }
            if (isOneOf(sign, "<=>")) {
                right("warm 1 p" + sign + "9");
            } else {
                fault("warm 1 p", sign + "9");
            }
            if (isDigit) {
                right("warm 1 p<" + sign);
                right("warm 1 p<9" + sign);
                right("rain 1" + sign);
                right("rain " + sign);
            } else {
                fault("warm 1 p<", "" + sign);
                fault("rain ", "" + sign);
                fault("warm 1 p<9" + (isOneOf(sign, "|&;") ? sign : ""), isOneOf(sign, "|&;") ? "" : "" + sign);
                fault("rain 1" + (sign == ';' ? ";" : ""), sign == ';' ? "" : "" + sign);
            }
            if (!isOneOf(sign, "wcr")) {
                fault("", "" + sign);
            }
        }
        fault("warm 1 p<99", "9");
        fault("warm 1 p", "9");
        fault("warm 1 p<", "=9");
    }

    /** "A ( or ! within 4 others is none." */
    private static void withinFour() {
        right("warm 1 ((((p<9))))");
        fault("warm 1 ((((", "(p<9)))))");
        right("warm 1 !!!!p<9");
        fault("warm 1 !!!!", "!p<9");
        right("warm 1 !(!(p<9))");
        fault("warm 1 !(!(", "!p<9))");
        fault("warm 1 !(!(", "(p<9)))");
        fault("warm 1 (!(!", "(p<9)))");
        right("warm 1 (((!p<9&!p<9)))");
        fault("warm 1 (((!p<9&!", "!p<9)))");
        fault("warm 1 (((!p<9&!", "(p<9))))");
        // those that are closed are not around what comes behind them
        right("warm 1 (p<9)&(p<9)&(p<9)&(p<9)&(p<9)&(p<9)");
        right("warm 1 !p<9|!p<9|!p<9|!p<9|!p<9|!p<9");
        right("warm 1 !(p<9)&!(p<9)&!(p<9)|!!!!p<9");
        right("warm 1 ((((p<9))&((p<9))))");
        fault("warm 1 ((((p<9))&((", "(p<9)))))");
        right("warm 1 ((((p<9))));warm 1 ((((p<9))))");
        fault("warm 1 ((((", "");
        fault("warm 1 ((((p<9)))", "");
    }

    /** "The FAULT: the place of the first byte .. (the end of THE TEXT, if it ends too early)" */
    private static void whereItEnds() {
        String text = "warm 12 !(p<10)&k=3;rain 5";
        for (int n = 0; n <= text.length(); n++) {
            if (n == 15 || n == 19 || n == 26) {
                right(text.substring(0, n));
            } else {
                fault(text.substring(0, n), "");
            }
        }
        for (int n = 0; n < text.length(); n++) {
            fault(text.substring(0, n), "~" + text.substring(n));
        }
    }

    /** Whether a TEST, or an E, holds, for a HEAD that is one of six with v 0, 1, 4, 5, 8, 9. */
    private static void holds(String e, int head, int drawer, int light, int is) {
        x = new HairAtATime();
        for (int v : new int[] {0, 1, 4, 5, 8, 9}) {
            x.head(0, v, 0);
        }
        Checks.theatre(x, "warm 50 " + e);
        due(e + " for " + head + ", " + drawer + ", " + light, 10 * drawer + 50 * is, x.shade(head, drawer, light));
    }

    /** "of a HEAD and a DRAWER by a LIGHT p the number of the one, .. v its v, c the number of the other, l the LIGHT" */
    private static void testsOfNumbers() {
        holds("p<3", 2, 1, 0, 1);
        holds("p<3", 3, 1, 0, 0);
        holds("p=3", 2, 1, 0, 0);
        holds("p=3", 3, 1, 0, 1);
        holds("p=3", 4, 1, 0, 0);
        holds("p>3", 3, 1, 0, 0);
        holds("p>3", 4, 1, 0, 1);
        holds("p=0", 0, 1, 0, 1);
        holds("p>0", 0, 1, 0, 0);
        holds("p<00", 0, 1, 0, 0);
        holds("p=5", 5, 1, 0, 1);
        holds("p>5", 5, 1, 0, 0);
        holds("p=03", 3, 1, 0, 1);
        holds("p=30", 3, 1, 0, 0);
        holds("p=13", 3, 1, 0, 0);
        holds("p<99", 5, 1, 0, 1);
        holds("v=0", 0, 1, 0, 1);
        holds("v>0", 0, 1, 0, 0);
        holds("v>0", 1, 1, 0, 1);
        holds("v<9", 4, 1, 0, 1);
        holds("v<9", 5, 1, 0, 0);
        holds("v=9", 5, 1, 0, 1);
        holds("v<10", 5, 1, 0, 1);
        holds("c=0", 0, 0, 0, 1);
        holds("c=0", 0, 1, 0, 0);
        holds("c>6", 0, 6, 0, 0);
        holds("c>6", 0, 7, 0, 1);
        holds("c=7", 5, 7, 1, 1);
        holds("c=07", 5, 7, 1, 1);
        holds("c<8", 5, 7, 1, 1);
        holds("l=0", 3, 1, 0, 1);
        holds("l=0", 3, 1, 1, 0);
        holds("l=1", 3, 1, 0, 0);
        holds("l=1", 3, 1, 1, 1);
        holds("l<1", 3, 1, 0, 1);
        holds("l<1", 3, 1, 1, 0);
        holds("l>0", 3, 1, 0, 0);
        holds("l>0", 3, 1, 1, 1);
        holds("l>1", 3, 1, 1, 0);
    }

    /** "k its KIND": 0 .. 6. */
    private static void testsOfKinds() {
        // by day, at NIGHT 0, out of DRAWER 0: what 50 warmer makes of each KIND, and what it is without
        int[] warm = {50, 50, 25, 50, 50, 35, 50};
        int[] bare = {0, 0, 0, 0, 0, 10, 0};
        for (int kind = 0; kind < 7; kind++) {
            for (int k = 0; k < 7; k++) {
                x = new HairAtATime();
                x.head(kind, 0, 0);
                Checks.theatre(x, "warm 50 k=" + k);
                due("k=" + k + " of KIND " + kind, k == kind ? warm[kind] : bare[kind], x.shade(0, 0, 1));
            }
            x = new HairAtATime();
            x.head(kind, 0, 0);
            Checks.theatre(x, "warm 50 k>5");
            due("k>5 of KIND " + kind, kind == 6 ? 50 : bare[kind], x.shade(0, 0, 1));
        }
    }

    /** "n NIGHT modulo 10" */
    private static void testsOfNights() {
        int[] nights = {0, 1, 8, 9, 10, 19, 20, 29, 60};
        for (int night : nights) {
            for (int n : new int[] {0, 8, 9, 10, 20}) {
                x = new HairAtATime();
                x.head(0, 0, 0);
                x.pass(night);
                Checks.theatre(x, "warm 1 n<" + n + ";warm 2 n=" + n + ";warm 4 n>" + n);
                int last = night == 0 || night == 10 || night == 20 || night == 60 ? 0 : night == 1 ? 1 : night == 8 ? 8 : 9;
                due("n and " + n + " by NIGHT " + night, last < n ? 1 : last == n ? 2 : 4, x.shade(0, 0, 0));
            }
        }
        x = Edges.late(0);
        Checks.theatre(x, "warm 7 n=9");
        due("n=9 by NIGHT 9999", 17, x.shade(0, 1, 0));
    }

    /** "E: T or T|E. T: F or F&T. F: !F, (E)": what holds of those. */
    private static void whatHolds() {
        holds("p=0|p=1", 0, 0, 0, 1);
        holds("p=0|p=1", 1, 0, 0, 1);
        holds("p=0|p=1", 2, 0, 0, 0);
        holds("p=1&l=1", 1, 0, 0, 0);
        holds("p=1&l=1", 1, 0, 1, 1);
        holds("p=1&l=1", 2, 0, 1, 0);
        holds("!p=1", 1, 0, 0, 0);
        holds("!p=1", 2, 0, 0, 1);
        holds("!!p=1", 1, 0, 0, 1);
        holds("!!!!p=1", 1, 0, 0, 1);
        holds("!!!p=1", 1, 0, 0, 0);
        holds("p=1|p=2&l=1", 1, 0, 0, 1);
        holds("(p=1|p=2)&l=1", 1, 0, 0, 0);
        holds("l=1&p=2|p=1", 1, 0, 0, 1);
        holds("l=1&(p=2|p=1)", 1, 0, 0, 0);
        holds("!p=1|p=1", 1, 0, 0, 1);
        holds("!(p=1|p=1)", 1, 0, 0, 0);
        holds("!p=2&p=2", 1, 0, 0, 0);
        holds("((((p=1))))", 1, 0, 0, 1);
        holds("((((p=1))))", 0, 0, 0, 0);
        holds("!(!(p=1))", 1, 0, 0, 1);
        holds("p=0|p=1|p=2|p=3|p=4|p=5", 5, 0, 0, 1);
        holds("p>0&p>1&p>2&p>3&p>4&p>5", 5, 0, 0, 0);
        holds("p>0&p>1&p>2&p>3&p>4", 5, 0, 0, 1);
        holds("p=5&(p=4|p=5&(p=3|p=5&(p=2|p=5&(p=5))))", 5, 0, 0, 1);
        holds("p=5&(p=4|p=5&(p=3|p=5&(p=2|p=5&(p=1))))", 5, 0, 0, 0);
    }

    /** "the n of all warm whose E holds, less those of all cool, together (may be below 0)" */
    private static void sums() {
        String[] texts = {"warm 99 p<9", "cool 99 p<9", "warm 99 p<9;cool 99 p<9", "warm 99 p>9", "cool 99 p>9",
            "warm 1 p<9;warm 2 p>9;warm 4 p<9;cool 8 p<9;cool 16 p>9", "warm 0 p<9;cool 00 p<9", "rain 9",
            "warm 1 p<9;".repeat(8) + "warm 1 p<9", "cool 9 p<9;".repeat(8) + "cool 9 p<9",
            "rain 1;rain 2;rain 3;" + "warm 1 p<9;".repeat(6) + "warm 9 p<9"};
        int[] more = {99, -99, 0, 0, 0, -3, 0, 0, 9, -81, 15};
        for (int i = 0; i < texts.length; i++) {
            due("right: " + texts[i], 0, made(texts[i]));
            x.head(0, 0, 0);
            due("SUM by lamp, " + texts[i], more[i], x.shade(0, 0, 0));
            due("SUM by day, " + texts[i], 70 + more[i], x.shade(0, 7, 1));
        }
    }

    /** "RAIN (0 without): the last one's n." */
    private static void rain() {
        String[] texts = {"warm 1 p<9", "rain 0", "rain 1", "rain 99", "rain 5;rain 3", "rain 3;rain 5", "rain 5;rain 0",
            "rain 5;warm 1 p<9", "warm 1 p<9;rain 5;cool 1 p<9", "rain 0;rain 7"};
        int[] rain = {0, 0, 1, 99, 3, 5, 0, 5, 5, 7};
        due("RAIN without a THEATRE", 0, new HairAtATime().told(1));
        for (int i = 0; i < texts.length; i++) {
            due("right: " + texts[i], 0, made(texts[i]));
            due("RAIN of " + texts[i], rain[i], x.told(1));
        }
    }

    /** "The newest THEATRE holds (6 at most); without one there are no CLAUSES." */
    private static void theNewestHolds() {
        x = Edges.heads(0);
        for (String broken : new String[] {"rain 9;warm 50 p<9;x", "warm 50 p<9;cool 8 (p<9", "rain 8;rain ", "warm 5 p<9&"}) {
            due("a broken one", -10 - (broken.length() - (broken.endsWith("x") ? 1 : 0)), Checks.theatre(x, broken));
            due("nothing of it holds: RAIN", 0, x.told(1));
            due("nothing of it holds: SUM", 30, x.shade(0, 3, 0));
        }
        due("the first one behind those", 0, Checks.theatre(x, "cool 1 p<9"));
        due("nothing of those is in it: RAIN", 0, x.told(1));
        due("nothing of those is in it: SUM", 29, x.shade(0, 3, 0));
        x = Edges.heads(0);
        due("SUM without a THEATRE", 30, x.shade(0, 3, 0));
        String[] texts = {"warm 9 p<9;rain 5", "warm 4 p<9", "rain 7", "cool 30 p<9", "rain 0;rain 2", "warm 1 l=0"};
        int[] rain = {5, 0, 7, 0, 2, 0};
        int[] shade = {39, 34, 30, 0, 30, 31};
        for (int i = 0; i < 6; i++) {
            due("number of " + texts[i], i, Checks.theatre(x, texts[i]));
            due("its RAIN, and no other's", rain[i], x.told(1));
            due("its CLAUSES, and no other's", shade[i], x.shade(0, 3, 0));
        }
        due("a seventh", -4, Checks.theatre(x, "rain 9"));
        due("the sixth holds", 31, x.shade(0, 3, 0));
        due("the sixth holds", 0, x.told(1));
        x = Edges.heads(0);
        for (int i = 0; i < 4; i++) {
            due("a long broken one", -110, Checks.theatre(x, "warm 11 " + "p=9|".repeat(23)));
        }
        due("a short one behind those", 0, Checks.theatre(x, "warm 9 p<9&c=3"));
        due("it holds", 39, x.shade(0, 3, 0));
        due("it does not", 20, x.shade(0, 2, 0));
        x = Edges.heads(0);
        due("a right one", 0, Checks.theatre(x, "warm 9 p<9;rain 5"));
        due("a broken one", -10 - 13, Checks.theatre(x, "warm 50 p<9;r"));
        due("the one that held holds", 5, x.told(1));
        due("the one that held holds", 39, x.shade(0, 3, 0));
        due("the next one's number", 1, Checks.theatre(x, "rain 1"));
    }

    public static void main(String[] args) {
        atMost100Bytes();
        oneToTenClauses();
        wordsAndBlanks();
        oneOrTwoDigits();
        partsOfE();
        eachSign();
        withinFour();
        whereItEnds();
        testsOfNumbers();
        testsOfKinds();
        testsOfNights();
        whatHolds();
        sums();
        rain();
        theNewestHolds();
        EDGES.covers("term", 1, 1);
        EDGES.end();
    }
}
