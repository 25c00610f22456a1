/** Runs of 512 calls on cities of 8 places, 8 doors, 5 boys, each answer against PlainModel. */
final class FullRunsTest {
    private static final Check CHECK = new Check("FullRunsTest");
    private static final int RUNS = 1000, TOP_LETTERS = 150, SHUFFLES = 20;
    // No city() and few letters, so that the city stays full: it is told apart from these.
    private static final int[] SHARES = {1, 1, 0, 4, 12, 5, 12, 4, 3, 2, 2, 2, 4, 3, 3, 2, 2, 4, 1, 3, 3, 3, 1, 1, 1, 1};

    public static void main(String[] args) {
        int filled = 0;
        for (int i = 0; i < RUNS; i++) {
            MixedRun run = new MixedRun(CHECK, "run " + i, SHARES, i * 104729L + 3);
            filled += tellsFullCity(run) == TOP_LETTERS ? 1 : 0;
            int again = run.random(2) == 0 ? 180 : 0;
            while (run.callsLeft() > again) {
                run.asksAnything();
            }
            if (again > 0) {
                tellsAgain(run);
            }
            while (run.callsLeft() > 0) {
                run.asksAnything();
            }
        }
        CHECK.holds("many texts have 150 letters: " + filled, filled > RUNS / 4);
        CHECK.end();
    }

    private static int tellsFullCity(MixedRun run) {
        String text = fullText(run);
        long items = run.tells(text);
        CHECK.holds("\"" + text + "\" is told", items == 14 || items == 15);
        isFull(run);
        return text.length();
    }

    /** Another full city, or a text with a fault: then the city stays. */
    private static void tellsAgain(MixedRun run) {
        run.asks(Calls.NAMES.indexOf("clear"), 0, 0, 0);
        if (run.random(2) == 0) {
            tellsFullCity(run);
        } else {
            String text = fullText(run);
            int at = run.random(2) == 0 ? text.indexOf('n') : text.lastIndexOf(';');
            CHECK.due("city() of \"" + text + "\", x at " + at, run.tells(text.substring(0, at) + "x"), -10 - at);
            isFull(run);
        }
    }

    private static void isFull(MixedRun run) {
        int count = Calls.NAMES.indexOf("count");
        CHECK.due("count(0)", run.asks(count, 0, 0, 0), 8);
        CHECK.due("count(1)", run.asks(count, 1, 0, 0), 8);
        CHECK.due("count(2)", run.asks(count, 2, 0, 0), 5);
    }

    // ---- a text of 150 letters at most, mostly

    private static String fullText(MixedRun run) {
        String[] items = new String[run.random(4) == 0 ? 13 : 14];
        boolean narrow = run.random(3) > 0;
        boolean ring = run.random(2) == 0;
        for (int d = 0; d < 8; d++) {
            items[d] = door(run, d, ring, narrow);
        }
        for (int b = 0; b < 5; b++) {
            items[8 + b] = boy(run, narrow);
        }
        if (items.length == 14) {
            items[13] = "s" + run.random(41) + " ;";
        }
        for (int times = 0; times < SHUFFLES; times++) {
            int from = run.random(items.length);
            int to = run.random(items.length);
            String item = items[from];
            items[from] = items[to];
            items[to] = item;
        }
        return withBlanks(run, "n8;" + String.join("", items));
    }

    private static String door(MixedRun run, int d, boolean ring, boolean narrow) {
        int a = ring ? d : run.random(8);
        int b = (a + (ring ? 1 : 1 + run.random(7))) % 8;
        boolean turned = run.random(2) == 0;
        int pitch = narrow ? 14 + run.random(14) : run.random(41);
        return "d" + (turned ? b : a) + " " + (turned ? a : b) + " " + pitch + ";";
    }

    private static String boy(MixedRun run, boolean narrow) {
        int low = narrow ? 10 + run.random(18) : run.random(41);
        int high = low + run.random(Math.min(41 - low, narrow ? 13 : 41));
        int age = 7 + run.random(14);
        int breaks = run.random(3) == 0 ? 7 + run.random(14) : Math.min(age + 1 + run.random(4), 20);
        return "b" + low + " " + high + " " + age + " " + breaks + " " + run.random(8) + ";";
    }

    /** What room is left goes to blanks behind signs, or at the end. */
    private static String withBlanks(MixedRun run, String text) {
        StringBuilder wide = new StringBuilder(text);
        int room = run.random(2) == 0 ? TOP_LETTERS : text.length() + run.random(TOP_LETTERS + 1 - text.length());
        while (wide.length() < room) {
            int at = run.random(wide.length() + 1);
            boolean behindSign = at == 0 || !Character.isDigit(wide.charAt(at - 1));
            wide.insert(behindSign ? at : wide.length(), ' ');
        }
        return wide.toString();
    }
}
