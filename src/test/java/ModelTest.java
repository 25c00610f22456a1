/** Long runs of mixed calls on cities of all sizes, each answer against PlainModel; the runs are the same each time. */
final class ModelTest {
    private static final Check CHECK = new Check("ModelTest");
    private static final int RUNS = 3000;
    // The texts are typed apart from these.
    private static final int[] SHARES = {1, 1, 1, 4, 10, 5, 7, 3, 3, 2, 2, 2, 3, 3, 3, 2, 2, 4, 1, 3, 3, 3, 1, 1, 1, 1};

    public static void main(String[] args) {
        for (int i = 0; i < RUNS; i++) {
            MixedRun run = new MixedRun(CHECK, "run " + i, SHARES, i * 7919L + 1);
            run.tells(randomText(run));
            while (run.callsLeft() > 0) {
                if (run.random(200) == 0) {
                    run.tells(randomText(run));
                } else {
                    run.asksAnything();
                }
            }
        }
        CHECK.end();
    }

    private static String randomText(MixedRun run) {
        StringBuilder text = new StringBuilder();
        int places = 2;
        if (run.random(8) != 0) {
            places = 1 + run.random(8);
            text.append('n').append(blanks(run)).append(places).append(';');
        }
        int doors = places < 2 ? 0 : run.random(9);
        int boys = run.random(6);
        boolean narrow = run.random(2) == 0;
        int step = run.random(3) == 0 ? run.random(doors + boys + 1) : -1;
        int items = doors + boys;
        for (int i = 0; i <= items; i++) {
            if (i == step) {
                text.append('s').append(run.random(41)).append(";");
            }
            if (i == items) {
                break;
            }
            boolean isDoor = run.random(doors + boys) < doors;
            if (isDoor) {
                doors--;
                appendDoor(run, text, places, narrow);
            } else {
                boys--;
                appendBoy(run, text, places, narrow);
            }
        }
        String told = run.random(4) == 0 ? run.spoilt(text.toString()) : text.toString();
        return told.substring(0, Math.min(told.length(), 151));
    }

    private static void appendDoor(MixedRun run, StringBuilder text, int places, boolean narrow) {
        int a = run.random(places);
        int b = (a + 1 + run.random(places - 1)) % places;
        text.append('d').append(blanks(run)).append(a).append(' ').append(b).append(' ');
        text.append(narrow ? 14 + run.random(14) : run.random(41)).append(';');
    }

    private static void appendBoy(MixedRun run, StringBuilder text, int places, boolean narrow) {
        int low = narrow ? 10 + run.random(14) : run.random(41);
        int high = low + run.random(Math.min(41 - low, narrow ? 10 : 41));
        text.append('b').append(low).append(' ').append(high).append(' ').append(7 + run.random(14)).append(' ');
        text.append(7 + run.random(14)).append(' ').append(run.random(places)).append(blanks(run)).append(';');
    }

    private static String blanks(MixedRun run) {
        return run.random(6) == 0 ? "  " : "";
    }
}
