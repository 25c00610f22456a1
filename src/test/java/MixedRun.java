/** One long run of mixed calls on one object, each answer against PlainModel; the same seed makes the same run. */
final class MixedRun {
    static final int CALLS = 512;
    private static final int TYPE = 0, CITY = 2, POSTS = 13, TUNE = 14;
    private static final int[] FAR = {-1, -2, 8, 41, 256, Integer.MIN_VALUE, Integer.MAX_VALUE, Integer.MIN_VALUE + 1};

    private final Check check;
    private final String name;
    private final int[] shares;
    private final ChoristerKeys keys = new ChoristerKeys();
    private final PlainModel model = new PlainModel();
    private long seed;
    private int calls = 0;

    /** The shares say how often each call comes, in the order of Calls.NAMES. */
    MixedRun(Check check, String name, int[] shares, long seed) {
        this.check = check;
        this.name = name;
        this.shares = shares;
        this.seed = seed;
    }

    int random(int below) {
        seed = seed * 6364136223846793005L + 1442695040888963407L;
        return (int) ((seed >>> 33) % below);
    }

    int callsLeft() {
        return CALLS - calls;
    }

    /** The text is typed and read, as far as there are calls left: what city() answers. */
    long tells(String text) {
        for (int i = 0; i < text.length() && callsLeft() > 0; i++) {
            asks(TYPE, text.charAt(i), 0, 0);
        }
        return callsLeft() > 0 ? asks(CITY, 0, 0, 0) : 0;
    }

    void asksAnything() {
        int call = randomCall();
        asks(call, argument(call, 0), argument(call, 1), argument(call, 2));
    }

    long asks(int call, int a, int b, int c) {
        calls++;
        long got = Calls.answer(keys, call, a, b, c);
        long want = model.answer(call, a, b, c);
        if (got != want) {
            check.due(name + ", call " + calls + ": " + Calls.written(Calls.NAMES.get(call), a, b, c), got, want);
        } else {
            check.due("", 0, 0);
        }
        return got;
    }

    private int randomCall() {
        int sum = 0;
        for (int share : shares) {
            sum += share;
        }
        int left = random(sum);
        int call = 0;
        while (left >= shares[call]) {
            left -= shares[call++];
        }
        return call;
    }

    /** Mostly what may be, sometimes what is far from it. */
    private int argument(int call, int place) {
        if (random(40) == 0) {
            return FAR[random(FAR.length)];
        }
        if (call == TYPE) {
            return "nnddbbss;;  0123456789x".charAt(random(23));
        }
        if (call == POSTS) {
            return random(7) - 1;
        }
        if (call == TUNE) {
            return random(36);
        }
        int[] tops = tops(call);
        return place < tops.length ? random(tops[place] + 1) : 0;
    }

    private static int[] tops(int call) {
        switch (Calls.NAMES.get(call)) {
            case "door": return new int[] {8, 4};
            case "boy": return new int[] {5, 9};
            case "now": return new int[] {4};
            case "goes": return new int[] {4, 7};
            case "colds": return new int[] {4, 9};
            case "props": return new int[] {7, 1};
            case "way": return new int[] {4, 7};
            case "thirds": return new int[] {4, 4};
            case "odds": return new int[] {10, 5, 1};
            case "hears": return new int[] {7, 1};
            case "rate": return new int[] {5, 4};
            case "keep": case "back": return new int[] {1};
            case "count": return new int[] {5};
            default: return new int[] {};
        }
    }

    /** A text of which one letter or two are lost, changed, put in, or with its end cut off. */
    String spoilt(String text) {
        StringBuilder spoilt = new StringBuilder(text);
        for (int times = 1 + random(2); times > 0 && spoilt.length() > 0; times--) {
            int at = random(spoilt.length());
            int how = random(4);
            if (how == 0) {
                spoilt.deleteCharAt(at);
            } else if (how == 1) {
                spoilt.setCharAt(at, "ndbs; 0123456789xN".charAt(random(18)));
            } else if (how == 2) {
                spoilt.insert(at, "ndbs; 0123456789".charAt(random(16)));
            } else {
                spoilt.setLength(at);
            }
        }
        return spoilt.toString();
    }
}
