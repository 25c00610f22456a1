import java.util.ArrayList;
import java.util.Arrays;
import java.util.List;

/**
 * The numbers that each call takes and refuses, the order of refusals, and that what is refused changes
 * nothing: after each refused call every answer is compared with those of an object that never had it.
 */
final class RefusalsTest {
    private static final Check CHECK = new Check("RefusalsTest");
    private static final int NO = -1000000, BAD = -1, STATE = -2, FULL = -3;

    /** How an object came to where it is; and how many places, doors, boys it has then. */
    private record Story(String name, String text, String unread, int places, int doors, int boys, String... deeds) {
        Asked tell() {
            Asked keys = new Asked();
            if (!text.isEmpty()) {
                keys.types(text).does("city()");
            }
            return keys.does(deeds).types(unread);
        }
    }

    private static final Story NEW = new Story("a new object", "", "", 2, 0, 0);
    private static final Story ALONE = new Story("one boy alone", "n1;b0 0 7 8 0;", " s1", 1, 0, 1,
        "colds(0, 9)", "keep(1)", "year()", "michaelmas()", "rate(3, 0)");
    private static final Story NOBODY = new Story("nobody there", "d0 1 40;d1 0 0;s40;", "n1;", 2, 2, 0,
        "hears(1, 0)", "props(1, 1)", "keep(0)", "michaelmas()");
    private static final Story ALL_FULL = new Story("all full",
        "n8;d0 1 20;d1 2 22;d2 3 8;d3 4 30;d4 5 12;d5 6 20;d6 7 5;d7 0 20;"
            + "b18 30 8 9 0;b5 20 7 20 3;b20 24 12 12 7;b0 40 7 14 1;b8 8 9 10 2;s7;", "n3;d2 1 7;n" + " ".repeat(139),
        8, 8, 5, "keep(0)", "goes(0, 0)", "colds(1, 3)", "props(2, 1)", "goes(3, 0)", "michaelmas()", "year()", "year()",
        "keep(1)", "props(7, 1)", "goes(0, 7)", "props(2, 0)", "colds(4, 9)", "michaelmas()", "goes(3, 7)", "rate(4, 4)",
        "hears(0, 1)", "hears(7, 0)", "hears(3, 0)", "hears(2, 0)", "hears(1, 1)", "hears(6, 0)");
    private static final Story FULL_TEXT = new Story("a full text", "n3;d0 1 20;d1 2 24;b20 24 7 9 0;b24 30 7 9 1;",
        "n8;" + "d0 1 1;".repeat(8) + "b0 1 7 8 1;".repeat(5) + " ".repeat(33) + "n2;", 3, 2, 2,
        "goes(0, 0)", "hears(1, 1)", "hears(0, 0)", "keep(0)", "props(0, 1)");
    private static final Story LAST_YEAR = new Story("the last year", "n3;d0 1 20;d1 2 24;b20 24 7 9 0;b24 30 7 9 1;", "x",
        3, 2, 2, years("keep(0)", "props(1, 1)", "colds(1, 2)", "michaelmas()", "hears(0, 1)"));
    private static final Story BEHIND_BACK = new Story("behind back()", "n3;d0 1 20;d1 2 24;b20 24 7 9 0;b24 30 7 9 1;", "",
        3, 2, 2, "props(0, 1)", "colds(1, 9)", "keep(0)", "goes(0, 0)", "year()", "michaelmas()", "back(0)");
    private static final Story BEHIND_UNDO = new Story("behind undo()", "n3;d0 1 20;d1 2 24;b20 24 7 9 0;b24 30 7 9 1;", "",
        3, 2, 2, "props(0, 1)", "colds(1, 9)", "goes(0, 0)", "year()", "michaelmas()", "hears(1, 0)", "undo()", "undo()");
    private static final Story[] STORIES =
        {NEW, ALONE, NOBODY, ALL_FULL, FULL_TEXT, LAST_YEAR, BEHIND_BACK, BEHIND_UNDO};

    public static void main(String[] args) {
        for (Story story : STORIES) {
            badNumbers(story);
            takenNumbers(story);
            questionsChangeNothing(story);
        }
        itIsSo();
        badAheadOfState();
        badAheadOfFull();
        refusedTexts();
        CHECK.end();
    }

    private static String[] years(String... others) {
        List<String> deeds = new ArrayList<>();
        for (int year = 1; year <= 99; year++) {
            deeds.add("year()");
        }
        deeds.addAll(List.of(others));
        return deeds.toArray(new String[0]);
    }

    /** The least and the most that each number of a call may be. */
    private static int[][] bounds(String call, Story s) {
        int[] doors = {0, s.doors - 1};
        int[] boys = {0, s.boys - 1};
        switch (call) {
            case "type": return new int[][] {{0, 255}};
            case "door": return new int[][] {doors, {0, 4}};
            case "boy": return new int[][] {boys, {0, 9}};
            case "now": return new int[][] {{0, 4}};
            case "goes": return new int[][] {boys, doors};
            case "colds": return new int[][] {boys, {0, 9}};
            case "props": return new int[][] {doors, {0, 1}};
            case "way": return new int[][] {boys, {0, s.places - 1}};
            case "posts": return new int[][] {{-1, s.boys - 1}};
            case "tune": return new int[][] {{0, (1 << s.boys) - 1}};
            case "thirds": return new int[][] {boys, boys};
            case "odds": return new int[][] {{0, 10}, {0, 5}, {0, 1}};
            case "hears": return new int[][] {doors, {0, 1}};
            case "rate": return new int[][] {{0, 5}, boys};
            case "keep": case "back": return new int[][] {{0, 1}};
            case "count": return new int[][] {{0, 5}};
            default: return new int[0][];
        }
    }

    private static int refusal(String call) {
        return call.equals("boy") || call.equals("rate") ? NO : BAD;
    }

    // ---- what is compared

    /** The call answers what is due, and then every answer is as it was. */
    private static void refused(Story story, List<String> before, String call, long due) {
        Asked keys = story.tell();
        CHECK.due(story.name + ": " + call, keys.answers(call), due);
        CHECK.due(story.name + ": " + call + " again", keys.answers(call), due);
        nothingChanged(story, before, call);
    }

    private static void nothingChanged(Story story, List<String> before, String call) {
        List<String> behind = Everything.of(() -> story.tell().does(call));
        for (int i = 0; i < Math.max(before.size(), behind.size()); i++) {
            String was = i < before.size() ? before.get(i) : "nothing";
            String is = i < behind.size() ? behind.get(i) : "nothing";
            if (!was.equals(is)) {
                CHECK.holds(story.name + ": behind " + call + " " + is + ", but " + was + " without it, is as it was", false);
                return;
            }
        }
        CHECK.holds("as it was", true);
    }

    // ---- numbers that are not as told

    private static void badNumbers(Story story) {
        CHECK.sentence("Refused, and nothing changes, the first of these: BAD (a number is not as told, or there is no such thing)");
        List<String> before = Everything.of(story::tell);
        for (String call : Calls.NAMES) {
            int[][] bounds = bounds(call, story);
            for (int[] numbers : badRows(bounds)) {
                refused(story, before, Calls.written(call, numbers), refusal(call));
            }
        }
        for (int b = 0; b < story.boys; b++) {
            refused(story, before, Calls.written("thirds", b, b), BAD);
        }
    }

    /** Rows with one number that is not as told, beside the least and the most of the others; and with none that is. */
    private static List<int[]> badRows(int[][] bounds) {
        List<int[]> rows = new ArrayList<>();
        for (int wrong = 0; wrong < bounds.length; wrong++) {
            for (int bad : badNumbers(bounds[wrong])) {
                for (int end = 0; end <= 1; end++) {
                    int[] row = new int[bounds.length];
                    for (int i = 0; i < row.length; i++) {
                        row[i] = i == wrong ? bad : bounds[i][(end + i) % 2];
                    }
                    rows.add(row);
                }
                int[] all = new int[bounds.length];
                Arrays.fill(all, bad);
                if (allBad(all, bounds)) {
                    rows.add(all);
                }
            }
        }
        return rows;
    }

    private static boolean allBad(int[] row, int[][] bounds) {
        for (int i = 0; i < row.length; i++) {
            if (row[i] >= bounds[i][0] && row[i] <= bounds[i][1]) {
                return false;
            }
        }
        return true;
    }

    private static int[] badNumbers(int[] bounds) {
        int[] all = {bounds[0] - 1, bounds[1] + 1, bounds[1] + 2, bounds[0] + 256, bounds[1] + 65536, Integer.MIN_VALUE,
            Integer.MAX_VALUE};
        return Arrays.stream(all).filter(n -> n < bounds[0] || n > bounds[1]).distinct().toArray();
    }

    /** With each number the least or the most that it may be, no call is refused as BAD. */
    private static void takenNumbers(Story story) {
        CHECK.sentence("BAD (a number is not as told");
        for (String call : Calls.NAMES) {
            int[][] bounds = bounds(call, story);
            for (int ends = 0; ends < 1 << bounds.length; ends++) {
                int[] row = new int[bounds.length];
                boolean any = true;
                for (int i = 0; i < row.length; i++) {
                    row[i] = bounds[i][ends >> i & 1];
                    any &= bounds[i][0] <= bounds[i][1];
                }
                boolean twice = call.equals("thirds") && row[0] == row[1];
                if (any && !twice) {
                    long answer = story.tell().answers(Calls.written(call, row));
                    CHECK.holds(story.name + ": " + Calls.written(call, row) + " is taken", answer != refusal(call));
                }
            }
        }
    }

    private static void questionsChangeNothing(Story story) {
        CHECK.sentence("(As things are NOW; nothing is changed.)");
        List<String> before = Everything.of(story::tell);
        for (String call : new String[] {"door", "boy", "now", "way", "posts", "tune", "thirds", "odds", "count"}) {
            int[][] bounds = bounds(call, story);
            int[] row = new int[bounds.length];
            for (int a = bounds[0][0]; a <= bounds[0][1]; a++) {
                row[0] = a;
                for (int i = 1; i < row.length; i++) {
                    row[i] = bounds[i][0] + a % Math.max(bounds[i][1] - bounds[i][0] + 1, 1);
                }
                nothingChanged(story, before, Calls.written(call, row));
            }
        }
        for (String call : new String[] {"who()", "ask()", "trace()"}) {
            nothingChanged(story, before, call);
        }
    }

    // ---- STATE, FULL, and what comes first

    private static void eachRefused(Story story, long due, String... calls) {
        List<String> before = Everything.of(story::tell);
        for (String call : calls) {
            refused(story, before, call, due);
        }
    }

    private static void itIsSo() {
        CHECK.sentence("STATE (as told), FULL.");
        eachRefused(NEW, STATE, "undo()", "back(0)", "back(1)");
        eachRefused(ALONE, STATE, "colds(0, 0)", "back(0)");
        eachRefused(NOBODY, STATE, "props(0, 0)", "props(1, 1)", "back(1)");
        eachRefused(ALL_FULL, STATE, "goes(1, 0)", "goes(1, 7)", "goes(2, 5)", "goes(4, 1)", "goes(4, 2)", "colds(0, 0)",
            "colds(1, 0)", "colds(4, 9)", "props(7, 1)", "props(2, 0)", "props(0, 0)");
        eachRefused(ALL_FULL, FULL, "hears(0, 0)", "hears(0, 1)", "hears(7, 0)", "hears(7, 1)", "type(0)", "type(255)");
        eachRefused(FULL_TEXT, STATE, "colds(0, 0)", "colds(1, 0)", "props(0, 1)", "props(1, 0)", "back(1)");
        eachRefused(FULL_TEXT, FULL, "type(0)", "type(32)", "type(59)", "type(255)");
        eachRefused(LAST_YEAR, STATE, "year()", "goes(0, 1)", "goes(0, 0)", "goes(1, 0)", "colds(1, 2)", "colds(0, 0)",
            "props(1, 1)", "props(0, 0)", "back(1)");
        eachRefused(BEHIND_BACK, STATE, "undo()", "goes(0, 1)", "goes(1, 1)", "colds(1, 9)", "props(0, 1)", "back(1)");
        eachRefused(BEHIND_UNDO, STATE, "goes(1, 1)", "colds(1, 9)", "props(0, 1)", "props(1, 0)", "back(0)", "back(1)");
    }

    private static void badAheadOfState() {
        CHECK.sentence("the first of these: BAD (a number is not as told, or there is no such thing), STATE (as told), FULL.");
        eachRefused(BEHIND_BACK, BAD, "goes(2, 1)", "goes(-1, 1)", "goes(0, 2)", "goes(0, -1)", "colds(2, 0)", "colds(2, 9)",
            "colds(0, -1)", "colds(1, 10)", "props(2, 0)", "props(2, 1)", "props(0, 2)", "props(1, -1)", "back(2)", "back(-1)");
        eachRefused(NEW, BAD, "goes(0, 0)", "colds(0, 0)", "props(0, 0)", "back(2)", "back(-1)", "hears(0, 0)");
    }

    private static void badAheadOfFull() {
        CHECK.sentence("BAD; FULL.");
        eachRefused(FULL_TEXT, BAD, "type(-1)", "type(256)", "type(" + Integer.MAX_VALUE + ")", "type(" + Integer.MIN_VALUE + ")");
        eachRefused(ALL_FULL, BAD, "hears(8, 0)", "hears(-1, 0)", "hears(0, 2)", "hears(7, -1)", "type(-1)", "type(256)");
    }

    private static void refusedTexts() {
        CHECK.sentence("-10 less FAULT: nothing changes (THE TEXT stays, too).");
        eachRefused(FULL_TEXT, -10 - 147, "city()");
        eachRefused(LAST_YEAR, -10, "city()");
        eachRefused(ALL_FULL, -10 - 10, "city()");
        eachRefused(ALONE, -10 - 3, "city()");
        String[] texts = {"n9;", "n2;n", "n8;d7 7 1;", "n8;d0 7 41;", "d0 1 1;".repeat(8) + "d", "s0;s", "s01;", "s100;",
            "n1;b0 0 7 7 1;", "n8;d0 7 1;b0 40 7 20 7;s40;b9 8 7 7 0;", "n8;d0 7 1;b0 40 7 20 7;s40", "n8;d0 7 1;b0 40 7 20 7;N"};
        int[] places = {1, 3, 6, 8, 56, 3, 1, 1, 12, 30, 26, 23};
        for (int i = 0; i < texts.length; i++) {
            Story story = new Story("the text " + texts[i], BEHIND_UNDO.text, texts[i], 3, 2, 2, BEHIND_UNDO.deeds);
            eachRefused(story, -10 - places[i], "city()");
            Story first = new Story("the text " + texts[i] + " on a new object", "", texts[i], 2, 0, 0);
            eachRefused(first, -10 - places[i], "city()");
        }
    }
}
