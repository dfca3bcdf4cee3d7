/** Counts the answers of one test that are not due, and prints each. */
final class Checks {
    private final String test;
    private int wrong;
    private int made;

    Checks(String test) {
        this.test = test;
    }

    void due(String call, long want, long got) {
        made++;
        if (want != got) {
            wrong++;
            if (wrong <= 40) {
                System.out.println(test + ": " + call + " answered " + got + ", due is " + want);
            }
        }
    }

    void holds(String what, boolean is) {
        due(what, 1, is ? 1 : 0);
    }

    boolean anyWrong() {
        return wrong > 0;
    }

    /** Ends the machine with 1, if an answer was not due. */
    void end() {
        System.out.println(test + ": " + made + " answers looked at, " + wrong + " not as due");
        if (wrong > 0) {
            System.exit(1);
        }
    }

    static void feed(HairAtATime x, String text) {
        for (int i = 0; i < text.length(); i++) {
            x.feed(text.charAt(i));
        }
    }

    /** A THEATRE of this text: what theatre() answered. */
    static int theatre(HairAtATime x, String text) {
        feed(x, text);
        return x.theatre();
    }
}
