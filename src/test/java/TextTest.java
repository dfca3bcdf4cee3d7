/** Many texts, right ones and broken ones: the FAULT is where Model, which reads in another way, finds it. */
final class TextTest {
    private static final String SIGNS = "()!&|;<=> pkvcln0192wcrarmoli\nA";
    private static final int TEXTS = 60000;

    private static long seed = 11;

    private static int below(int n) {
        seed = seed * 6364136223846793005L + 1442695040888963407L;
        return (int) ((seed >>> 33) % n);
    }

    private static String factor(int deep) {
        int which = below(deep > 5 ? 2 : 5);
        if (which == 4) {
            return "!" + factor(deep + 1);
        }
        if (which == 3) {
            return "(" + either(deep + 1) + ")";
        }
        return "" + "pkvcln".charAt(below(6)) + "<=>".charAt(below(3)) + below(100);
    }

    private static String either(int deep) {
        String text = factor(deep);
        for (int more = below(3); more > 0; more--) {
            text += "|&".charAt(below(2)) + factor(deep);
        }
        return text;
    }

    private static String text() {
        StringBuilder text = new StringBuilder();
        for (int clauses = below(4) == 0 ? 11 : 1 + below(3); clauses > 0; clauses--) {
            boolean rain = clauses > 4 || below(4) == 0;
            text.append(rain ? "rain " + below(20) : (below(2) == 0 ? "warm " : "cool ") + below(100) + " " + either(0));
            text.append(clauses > 1 ? ";" : "");
        }
        int breaks = below(3);
        for (int i = 0; i < breaks && text.length() > 0; i++) {
            int at = below(text.length());
            switch (below(4)) {
                case 0: text.deleteCharAt(at); break;
                case 1: text.insert(at, SIGNS.charAt(below(SIGNS.length()))); break;
                case 2: text.setCharAt(at, SIGNS.charAt(below(SIGNS.length()))); break;
                default: text.setLength(at); break;
            }
        }
        text.setLength(Math.min(100, text.length()));
        return text.toString();
    }

    public static void main(String[] args) {
        Checks checks = new Checks("TextTest");
        int right = 0;
        for (int i = 0; i < TEXTS; i++) {
            String text = text();
            HairAtATime x = new HairAtATime();
            int fault = Model.fault(text);
            checks.due("theatre() of " + text, fault < 0 ? 0 : -10 - fault, Checks.theatre(x, text));
            checks.due("the text then", 0, x.count(5));
            right += fault < 0 ? 1 : 0;
        }
        checks.holds("there are right texts and broken ones", right > TEXTS / 10 && right < TEXTS * 9 / 10);
        checks.end();
    }
}
