/** Long runs of mixed calls, each answer against PlainModel; the runs are the same each time. */
final class ModelTest {
    private static final Check CHECK = new Check("ModelTest");
    private static final int RUNS = 3000, CALLS = 512;
    // How often each call comes among 64 (the texts are typed apart from these).
    private static final int[] SHARES = {1, 1, 1, 4, 10, 5, 7, 3, 3, 2, 2, 2, 3, 3, 3, 2, 2, 4, 1, 3, 3, 3, 1, 1, 1, 1};
    private static final int[] FAR = {-1, -2, 8, 41, 256, Integer.MIN_VALUE, Integer.MAX_VALUE, Integer.MIN_VALUE + 1};

    private static long seed;

    public static void main(String[] args) {
        for (int run = 0; run < RUNS; run++) {
            seed = run * 7919L + 1;
            oneRun(run);
        }
        CHECK.end();
    }

    private static int random(int below) {
        seed = seed * 6364136223846793005L + 1442695040888963407L;
        return (int) ((seed >>> 33) % below);
    }

    private static void oneRun(int run) {
        ChoristerKeys keys = new ChoristerKeys();
        PlainModel model = new PlainModel();
        int calls = 0;
        while (calls < CALLS) {
            if (calls == 0 || random(200) == 0) {
                String text = randomText();
                for (int i = 0; i < text.length() && calls < CALLS; i++) {
                    compare(run, ++calls, keys, model, 0, text.charAt(i), 0, 0);
                }
                if (calls < CALLS) {
                    compare(run, ++calls, keys, model, 2, 0, 0, 0);
                }
            } else {
                int call = randomCall();
                compare(run, ++calls, keys, model, call, argument(call, 0), argument(call, 1), argument(call, 2));
            }
        }
    }

    private static void compare(int run, int at, ChoristerKeys keys, PlainModel model, int call, int a, int b, int c) {
        long got = Calls.answer(keys, call, a, b, c);
        long want = model.answer(call, a, b, c);
        if (got != want) {
            CHECK.due("run " + run + ", call " + at + ": " + Calls.written(Calls.NAMES.get(call), a, b, c), got, want);
        } else {
            CHECK.due("", 0, 0);
        }
    }

    private static int randomCall() {
        int sum = 0;
        for (int share : SHARES) {
            sum += share;
        }
        int left = random(sum);
        int call = 0;
        while (left >= SHARES[call]) {
            left -= SHARES[call++];
        }
        return call;
    }

    /** Mostly what may be, sometimes what is far from it. */
    private static int argument(int call, int place) {
        if (random(40) == 0) {
            return FAR[random(FAR.length)];
        }
        if (call == 0) {
            return "nnddbbss;;  0123456789x".charAt(random(23));
        }
        if (call == 13) {
            return random(7) - 1;
        }
        if (call == 14) {
            return random(36);
        }
        int[] tops = tops(call);
        return place < tops.length ? random(tops[place] + 1) : 0;
    }

    private static int[] tops(int call) {
        switch (call) {
            case 3: return new int[] {8, 4};
            case 4: return new int[] {5, 9};
            case 5: return new int[] {4};
            case 6: return new int[] {4, 7};
            case 7: return new int[] {4, 9};
            case 8: return new int[] {7, 1};
            case 12: return new int[] {4, 7};
            case 15: return new int[] {4, 4};
            case 16: return new int[] {10, 5, 1};
            case 17: return new int[] {7, 1};
            case 21: return new int[] {5, 4};
            case 22: case 23: return new int[] {1};
            case 24: return new int[] {5};
            default: return new int[] {};
        }
    }

    private static String randomText() {
        StringBuilder text = new StringBuilder();
        int places = 2;
        if (random(8) != 0) {
            places = 1 + random(8);
            text.append('n').append(blanks()).append(places).append(';');
        }
        int doors = places < 2 ? 0 : random(9);
        int boys = random(6);
        boolean narrow = random(2) == 0;
        int step = random(3) == 0 ? random(doors + boys + 1) : -1;
        int items = doors + boys;
        for (int i = 0; i <= items; i++) {
            if (i == step) {
                text.append('s').append(random(41)).append(";");
            }
            if (i == items) {
                break;
            }
            boolean isDoor = random(doors + boys) < doors;
            if (isDoor) {
                doors--;
                appendDoor(text, places, narrow);
            } else {
                boys--;
                appendBoy(text, places, narrow);
            }
        }
        if (random(4) == 0) {
            spoil(text);
        }
        return text.substring(0, Math.min(text.length(), 151));
    }

    private static void appendDoor(StringBuilder text, int places, boolean narrow) {
        int a = random(places);
        int b = (a + 1 + random(places - 1)) % places;
        text.append('d').append(blanks()).append(a).append(' ').append(b).append(' ');
        text.append(narrow ? 14 + random(14) : random(41)).append(';');
    }

    private static void appendBoy(StringBuilder text, int places, boolean narrow) {
        int low = narrow ? 10 + random(14) : random(41);
        int high = low + random(Math.min(41 - low, narrow ? 10 : 41));
        text.append('b').append(low).append(' ').append(high).append(' ').append(7 + random(14)).append(' ');
        text.append(7 + random(14)).append(' ').append(random(places)).append(blanks()).append(';');
    }

    private static String blanks() {
        return random(6) == 0 ? "  " : "";
    }

    private static void spoil(StringBuilder text) {
        for (int times = 1 + random(2); times > 0 && text.length() > 0; times--) {
            int at = random(text.length());
            int how = random(4);
            if (how == 0) {
                text.deleteCharAt(at);
            } else if (how == 1) {
                text.setCharAt(at, "ndbs; 0123456789xN".charAt(random(18)));
            } else if (how == 2) {
                text.insert(at, "ndbs; 0123456789".charAt(random(16)));
            } else {
                text.setLength(at);
            }
        }
    }
}
