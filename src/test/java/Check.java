/** Counts the answers of a test that are not as due. */
final class Check {
    static final int NONE = -1;
    static final int UNKNOWN = -1000000001;
    static final int OUTSIDE = -1000000002;
    static final int NOT = -1000000003;
    static final int FULL = -1000000004;

    private int asked = 0;
    private int wrong = 0;

    void due(String call, int got, int want) {
        asked++;
        if (got != want) {
            wrong++;
            System.out.println(call + " answered " + got + ", due is " + want);
        }
    }

    void isTrue(String what, boolean is) {
        due(what, is ? 1 : 0, 1);
    }

    /** Feeds a text and makes it the school: the answer of school(). */
    static int tell(SatchelSins x, String text) {
        for (int i = 0; i < text.length(); i++) {
            x.feed(text.charAt(i));
        }
        return x.school();
    }

    static SatchelSins schoolOf(String text) {
        SatchelSins x = new SatchelSins();
        if (tell(x, text) < 0) {
            throw new IllegalStateException("a test's own text has a fault: " + text);
        }
        return x;
    }

    static void doAll(SatchelSins x) {
        for (int d = 0; d < x.told(2); d++) {
            x.doIt(d);
        }
    }

    void end() {
        System.out.println(asked + " answers, " + wrong + " not as due");
        if (wrong != 0) {
            System.exit(1);
        }
    }
}
