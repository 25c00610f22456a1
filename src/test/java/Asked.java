/** An object that is asked by written calls; it counts them, as 512 are promised and no more. */
final class Asked {
    private static final int MOST_CALLS = 512;

    private final ChoristerKeys keys = new ChoristerKeys();
    private int calls = 0;

    long answers(String call) {
        count();
        return Calls.answer(keys, call);
    }

    /** Calls one behind the other, whatever they answer. */
    Asked does(String... row) {
        for (String call : row) {
            answers(call);
        }
        return this;
    }

    Asked does(int times, String call) {
        for (int i = 0; i < times; i++) {
            answers(call);
        }
        return this;
    }

    /** Letters come to THE TEXT, one call each. */
    Asked types(String text) {
        for (int i = 0; i < text.length(); i++) {
            count();
            keys.type(text.charAt(i));
        }
        return this;
    }

    private void count() {
        calls++;
        if (calls > MOST_CALLS) {
            throw new IllegalStateException("the test asks more than " + MOST_CALLS + " calls of one object");
        }
    }
}
