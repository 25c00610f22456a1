import java.util.HashSet;
import java.util.Set;

/** What the tests have in common: answers that are due, texts typed at a stroke. */
final class Check {
    private final String test;
    private String sentence = "";
    private int askedOfSentence = 0;
    private final Set<String> sentences = new HashSet<>();
    private int asked = 0;
    private int wrong = 0;

    Check(String test) {
        this.test = test;
    }

    /** The sentence of the document that the checks from here on are about: none goes without a check. */
    void sentence(String words) {
        endSentence();
        sentence = ", \"" + words + "\"";
        sentences.add(words);
    }

    private void endSentence() {
        if (!sentence.isEmpty() && askedOfSentence == 0) {
            wrong++;
            System.out.println(test + sentence + ": nothing is asked");
        }
        askedOfSentence = 0;
    }

    void due(String call, long got, long want) {
        asked++;
        askedOfSentence++;
        if (got != want) {
            wrong++;
            System.out.println(test + sentence + ": " + call + " answered " + got + ", due is " + want);
        }
    }

    /** A written call on an object, and what it has to answer. */
    void due(Asked keys, String call, long want) {
        due(call, keys.answers(call), want);
    }

    void holds(String what, boolean so) {
        due(what, so ? 1 : 0, 1);
    }

    static void typed(ChoristerKeys keys, String text) {
        for (int i = 0; i < text.length(); i++) {
            keys.type(text.charAt(i));
        }
    }

    /** A new object to which a text was told; the text has to be right. */
    ChoristerKeys told(String text) {
        ChoristerKeys keys = new ChoristerKeys();
        typed(keys, text);
        holds("city() of \"" + text + "\" is told", keys.city() >= 0);
        return keys;
    }

    /** The same, to be asked by written calls. */
    Asked asked(String text) {
        Asked keys = new Asked().types(text);
        if (keys.answers("city()") < 0) {
            holds("city() of \"" + text + "\" is told", false);
        }
        return keys;
    }

    /** What city() answers to a text on a new object. */
    static int read(String text) {
        ChoristerKeys keys = new ChoristerKeys();
        typed(keys, text);
        return keys.city();
    }

    void end() {
        endSentence();
        String of = sentences.isEmpty() ? "" : " to " + sentences.size() + " sentences";
        System.out.println(test + ": " + asked + " answers" + of + ", " + wrong + " wrong");
        if (wrong != 0 || asked == 0) {
            System.exit(1);
        }
    }
}
