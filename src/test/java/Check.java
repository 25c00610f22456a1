/** What the tests have in common: answers that are due, texts typed at a stroke. */
final class Check {
    private final String test;
    private int asked = 0;
    private int wrong = 0;

    Check(String test) {
        this.test = test;
    }

    void due(String call, long got, long want) {
        asked++;
        if (got != want) {
            wrong++;
            System.out.println(test + ": " + call + " answered " + got + ", due is " + want);
        }
    }

    void holds(String what, boolean so) {
        due(what, so ? 1 : 0, 1);
    }

    static void typed(ChoristerKeys keys, String text) {
        for (int i = 0; i < text.length(); i++) {
            keys.type(text.charAt(i));
        }
    }

    /** A new object to which a text was told; the text has to be right. */
    ChoristerKeys told(String text) {
        ChoristerKeys keys = new ChoristerKeys();
        typed(keys, text);
        holds("city() of \"" + text + "\" is told", keys.city() >= 0);
        return keys;
    }

    /** What city() answers to a text on a new object. */
    static int read(String text) {
        ChoristerKeys keys = new ChoristerKeys();
        typed(keys, text);
        return keys.city();
    }

    void end() {
        System.out.println(test + ": " + asked + " answers, " + wrong + " wrong");
        if (wrong != 0 || asked == 0) {
            System.exit(1);
        }
    }
}
