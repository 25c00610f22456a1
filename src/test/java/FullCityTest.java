import java.util.Arrays;

/**
 * A city in which all is as many as may be, told by a text of 150 letters; every answer here was reckoned
 * by hand. The doors make a ring: door d is between place d and the next one.
 *
 * <pre>
 * door  0  1  2  3  4  5  6  7     boy 0 sings 20 .. 28, will break in 2 years
 * pitch 20 24 28 12 16 20 24 40    boy 1 sings 24 .. 40, will break in 3 years
 *                                  boy 2 sings 12 .. 18, is broken since just now
 *                                  boy 3 sings 18 .. 24, is broken
 *                                  boy 4 sings 12 alone, will break in a year
 * </pre>
 */
final class FullCityTest {
    private static final Check CHECK = new Check("FullCityTest");
    private static final int NONE = -9, BAD = -1, STATE = -2, FULL = -3;
    private static final int PLACES = 8, DOORS = 8, BOYS = 5;
    private static final String ITEMS =
        "n8;d0 1 20;d1 2 24;d2 3 28;d3 4 12;d4 5 16;d5 6 20;d6 7 24;d7 0 40;"
            + "b20 28 8 10 0;b24 40 9 12 4;b24 30 14 14 3;b30 36 20 15 7;b12 12 10 11 5;s40;";
    private static final String TEXT = "  " + ITEMS + "    ";
    private static final String[] DEEDS = {"goes(0, 0)", "goes(0, 1)", "goes(0, 2)", "goes(3, 6)", "goes(2, 3)",
        "goes(2, 4)", "colds(0, 5)", "colds(3, 6)", "colds(1, 9)", "props(3, 1)", "props(7, 1)", "year()", "michaelmas()",
        "props(3, 0)", "michaelmas()"};
    private static final int[][] DOORS_AS_TOLD = {{0, 1, 20, 0, 9}, {1, 2, 24, 0, 11}, {2, 3, 28, 0, 3}, {3, 4, 12, 0, 20},
        {4, 5, 16, 0, 4}, {5, 6, 20, 0, 9}, {6, 7, 24, 0, 11}, {7, 0, 40, 0, 2}};
    private static final int[][] BOYS_AS_TOLD = {{20, 28, 8, 10, 0, 0, 0, 103, 15, NONE},
        {24, 40, 9, 12, 4, 4, 0, 198, 16, NONE}, {12, 18, 14, 14, 3, 3, 0, 24, 56, NONE},
        {18, 24, 20, 15, 7, 7, 0, 99, 224, NONE}, {12, 12, 10, 11, 5, 5, 0, 8, 32, NONE}};
    private static final int[][] DOORS_THEN = {{0, 1, 18, 0, 12}, {1, 2, 22, 0, 9}, {2, 3, 26, 0, 3}, {3, 4, 10, 0, 0},
        {4, 5, 14, 0, 4}, {5, 6, 18, 0, 12}, {6, 7, 22, 0, 9}, {7, 0, 38, 1, 31}};
    private static final int[][] BOYS_THEN = {{20, 28, 9, 10, 0, 3, 0, 198, 14, 0},
        {24, 40, 10, 12, 4, 4, 0, 132, 16, NONE}, {12, 18, 15, 14, 3, 5, 0, 177, 112, 0},
        {18, 24, 21, 15, 7, 6, 0, 227, 231, NONE}, {0, 0, 11, 11, 5, 5, 0, 128, 32, NONE}};

    public static void main(String[] args) {
        type();
        clear();
        city();
        faults();
        aFaultChangesNothing();
        emptyAgain();
        asTold(CHECK.asked(TEXT));
        asThen(CHECK.asked(TEXT).does(DEEDS));
        goes();
        colds();
        props();
        yearsAndMichaelmas();
        undo();
        way();
        posts();
        tune();
        thirds();
        odds();
        heard();
        forget();
        rate();
        images();
        CHECK.end();
    }

    // ---- the text

    private static void type() {
        CHECK.sentence("Promise 2: type");
        Asked keys = new Asked();
        CHECK.due("letters", TEXT.length(), 150);
        for (int i = 0; i < TEXT.length(); i++) {
            CHECK.due(keys, Calls.written("type", TEXT.charAt(i)), i + 1);
        }
        CHECK.due(keys, "type(32)", FULL);
        CHECK.due(keys, "type(256)", BAD);
        CHECK.due(keys, "city()", 15);
    }

    private static void clear() {
        CHECK.sentence("Promise 3: clear");
        Asked keys = new Asked().types(TEXT);
        CHECK.due(keys, "clear()", 150);
        CHECK.due(keys, "city()", 0);
        Asked told = CHECK.asked(TEXT);
        CHECK.due(told, "clear()", 0);
        CHECK.due(told.types(TEXT), "clear()", 150);
        asTold(told);
    }

    private static void city() {
        CHECK.sentence("Promise 4: city");
        Asked keys = new Asked().types(TEXT);
        CHECK.due(keys, "city()", 15);
        counts(keys, 8, 8, 5, 40, 0, 0);
        CHECK.due(keys.types(TEXT), "city()", 15);
        counts(keys, 8, 8, 5, 40, 0, 0);
    }

    private static void fault(String text, int place) {
        CHECK.due("city() of \"" + text + "\"", Check.read(text), -10 - place);
    }

    private static void faults() {
        CHECK.sentence("-10 less FAULT");
        int end = ITEMS.length();
        for (String more : new String[] {"n", "d", "b", "s", ";", "0", "x", "100", "00", "d0 1 2;", "b0 1;", "s4;"}) {
            fault(ITEMS + more, end);
            fault("  " + ITEMS + "   " + more.substring(0, 1), end + 5);
        }
        String open = ITEMS.substring(0, end - 1);
        fault(open, end - 1);
        fault(open + " ".repeat(151 - end), 150);
        fault(open + " ".repeat(150 - end) + "x", 149);
        CHECK.due("the 151st letter is not told", Check.read(open + " ".repeat(150 - end) + ";;"), 15);
        fault(TEXT.replace("s40", "s41"), TEXT.indexOf("s40") + 1);
        fault(TEXT.replace("d7 0 40", "d7 7 40"), TEXT.indexOf("d7 0 40") + 3);
        fault(TEXT.replace("d7 0 40", "d8 0 40"), TEXT.indexOf("d7 0 40") + 1);
        fault(TEXT.replace("b12 12", "b12 11"), TEXT.indexOf("b12 12") + 4);
        fault(TEXT.replace("11 5;", "21 5;"), TEXT.indexOf("11 5;"));
        fault(TEXT.replace("11 5;", "11 8;"), TEXT.indexOf("11 5;") + 3);
        fault(TEXT.replace("n8", "n7"), TEXT.indexOf("d6 7") + 3);
        fault(TEXT.replace("n8", "n9"), 3);
    }

    private static void aFaultChangesNothing() {
        CHECK.sentence("nothing changes (THE TEXT stays, too).");
        Asked keys = CHECK.asked(TEXT).does("keep(1)", "hears(0, 1)").types(ITEMS + "d");
        CHECK.due(keys, "city()", -10 - ITEMS.length());
        CHECK.due(keys, "city()", -10 - ITEMS.length());
        counts(keys, 8, 8, 5, 40, 1, ITEMS.length() + 1);
        asTold(keys);
        CHECK.due(keys, "back(1)", 0);
    }

    private static void emptyAgain() {
        CHECK.sentence("Promise 1: A new object");
        Asked keys = CHECK.asked(TEXT).does(DEEDS).does("keep(0)", "hears(0, 1)");
        CHECK.due(keys, "city()", 0);
        counts(keys, 2, 0, 0, 5, 0, 0);
        for (int what = 0; what <= 4; what++) {
            CHECK.due(keys, Calls.written("now", what), 0);
        }
        CHECK.due(keys, "door(0, 0)", BAD);
        CHECK.due(keys, "boy(0, 0)", -1000000);
        CHECK.due(keys, "back(0)", STATE);
        CHECK.due(keys, "undo()", STATE);
        CHECK.due(keys, "who()", 0);
    }

    private static void counts(Asked keys, int... due) {
        for (int what = 0; what < due.length; what++) {
            CHECK.due(keys, Calls.written("count", what), due[what]);
        }
    }

    // ---- how all is

    private static void asTold(Asked keys) {
        CHECK.sentence("Promises 5 to 7, at first: door, boy, now");
        table(keys, "door", DOORS_AS_TOLD);
        table(keys, "boy", BOYS_AS_TOLD);
        table(keys, "now", 0, 0, 31, 7);
    }

    /** As all is behind DEEDS. */
    private static void asThen(Asked keys) {
        CHECK.sentence("Promises 5 to 7, behind deeds: door, boy, now");
        table(keys, "door", DOORS_THEN);
        table(keys, "boy", BOYS_THEN);
        table(keys, "now", 1, 128, 18, NONE);
    }

    private static void table(Asked keys, String name, int[][] due) {
        for (int a = 0; a < due.length; a++) {
            for (int b = 0; b < due[a].length; b++) {
                CHECK.due(keys, Calls.written(name, a, b), due[a][b]);
            }
        }
    }

    private static void table(Asked keys, String name, int... due) {
        for (int a = 0; a < due.length; a++) {
            CHECK.due(keys, Calls.written(name, a), due[a]);
        }
    }

    // ---- what is done

    private static void rows(Asked keys, String[] calls, int... due) {
        for (int i = 0; i < calls.length; i++) {
            CHECK.due(keys, calls[i], due[i]);
        }
    }

    private static void goes() {
        CHECK.sentence("Promise 8: goes");
        Asked keys = CHECK.asked(TEXT);
        rows(keys, new String[] {"goes(0, 0)", "goes(0, 1)", "goes(0, 2)", "goes(0, 3)", "goes(0, 4)", "goes(0, 0)"},
            1, 2, 3, STATE, STATE, STATE);
        rows(keys, new String[] {"goes(3, 6)", "goes(2, 3)", "goes(2, 4)", "goes(4, 3)", "goes(4, 4)", "goes(1, 7)"},
            6, 4, 5, STATE, STATE, STATE);
        rows(keys, new String[] {"goes(5, 0)", "goes(-1, 0)", "goes(0, 8)", "goes(4, -1)"}, BAD, BAD, BAD, BAD);
        CHECK.due(keys, "now(2)", 18);
        CHECK.due(keys, "now(4)", 6);
        int[] shut = {2, NONE, NONE, NONE, NONE};
        int[] reach = {15, 16, 56, 224, 32};
        for (int b = 0; b < BOYS; b++) {
            CHECK.due(keys, Calls.written("boy", b, 9), shut[b]);
            CHECK.due(keys, Calls.written("boy", b, 8), reach[b]);
        }
        rows(keys, new String[] {"way(0, 0)", "way(0, 4)", "way(2, 3)", "way(3, 7)", "way(3, 5)"}, 3, NONE, 2, 1, 1);
    }

    private static void colds() {
        CHECK.sentence("Promise 9: colds");
        Asked keys = CHECK.asked(TEXT).does("goes(0, 0)", "goes(0, 1)", "goes(0, 2)", "goes(3, 6)");
        rows(keys, new String[] {"colds(0, 5)", "colds(0, 5)", "colds(3, 6)", "colds(1, 9)", "colds(4, 0)", "colds(5, 1)",
            "colds(4, 10)", "colds(4, -1)"}, 0, STATE, 0, 0, STATE, BAD, BAD, BAD);
        int[] keysOfBoys = {33, 70, 24, 0, 8};
        int[] reach = {8, 16, 56, 64, 32};
        int[] shut = {0, NONE, NONE, 0, NONE};
        for (int b = 0; b < BOYS; b++) {
            CHECK.due(keys, Calls.written("boy", b, 7), keysOfBoys[b]);
            CHECK.due(keys, Calls.written("boy", b, 8), reach[b]);
            CHECK.due(keys, Calls.written("boy", b, 9), shut[b]);
        }
        rows(keys, new String[] {"way(0, 0)", "now(3)", "now(4)", "colds(0, 0)", "way(0, 0)"}, NONE, NONE, 7, 5, 3);
    }

    private static void props() {
        CHECK.sentence("Promise 10: props");
        Asked keys = CHECK.asked(TEXT);
        rows(keys, new String[] {"props(3, 0)", "props(3, 1)", "props(3, 1)", "props(7, 1)", "props(8, 1)", "props(7, 2)"},
            STATE, 1, STATE, 2, BAD, BAD);
        int[] keysOfBoys = {239, 206, 152, 235, 136};
        for (int b = 0; b < BOYS; b++) {
            CHECK.due(keys, Calls.written("boy", b, 7), keysOfBoys[b]);
        }
        rows(keys, new String[] {"now(1)", "now(3)", "door(3, 4)", "door(7, 4)", "boy(0, 8)"}, 136, 5, 31, 31, 223 | 32);
        for (int d = 0; d < DOORS; d++) {
            keys.does(Calls.written("props", d, 1));
        }
        rows(keys, new String[] {"now(1)", "now(3)", "posts(-1)", "props(0, 0)", "now(1)"}, 255, 1, 5, 7, 254);
    }

    private static void yearsAndMichaelmas() {
        CHECK.sentence("Promises 11, 12: year, michaelmas");
        Asked keys = CHECK.asked(TEXT).does("colds(0, 5)", "colds(1, 9)");
        rows(keys, new String[] {"michaelmas()", "door(0, 2)", "door(3, 2)", "door(7, 2)"}, 2, 19, 11, 39);
        rows(keys, new String[] {"year()", "boy(4, 0)", "boy(4, 1)", "boy(0, 6)", "boy(1, 6)"}, 1, 0, 0, 0, 0);
        rows(keys, new String[] {"year()", "boy(0, 0)", "boy(0, 1)", "year()", "boy(1, 0)", "year()", "now(0)"},
            1, 8, 16, 1, 12, 0, 4);
        Asked around = CHECK.asked(TEXT).does(12, "michaelmas()");
        rows(around, new String[] {"door(3, 2)", "michaelmas()", "door(3, 2)", "door(4, 2)"}, 0, 5, 40, 3);
        Asked late = CHECK.asked(TEXT).does(99, "year()");
        rows(late, new String[] {"year()", "now(0)", "boy(3, 2)", "undo()", "year()"}, STATE, 99, 119, 9, 0);
    }

    private static void undo() {
        CHECK.sentence("Promise 13: undo");
        Asked keys = CHECK.asked(TEXT).does(DEEDS);
        for (int left = 10; left > 0; left--) {
            CHECK.due(keys, "now(4)", left);
            CHECK.due(keys, "undo()", left - 1);
        }
        CHECK.due(keys, "undo()", STATE);
        int[] places = {3, 4, 4, 6, 5};
        for (int b = 0; b < BOYS; b++) {
            CHECK.due(keys, Calls.written("boy", b, 5), places[b]);
            CHECK.due(keys, Calls.written("boy", b, 6), 0);
            CHECK.due(keys, Calls.written("boy", b, 2), BOYS_AS_TOLD[b][2]);
        }
        table(keys, "door", DOORS_AS_TOLD);
        table(keys, "now", 0, 0, 18, 7, 0);
    }

    // ---- ways, posts

    private static void way() {
        CHECK.sentence("Promise 14: way");
        int[][] due = {{0, 1, 2, 3, NONE, NONE, NONE, NONE}, {NONE, NONE, NONE, NONE, 0, NONE, NONE, NONE},
            {NONE, NONE, NONE, 0, 1, 2, NONE, NONE}, {NONE, NONE, NONE, NONE, NONE, 2, 1, 0},
            {NONE, NONE, NONE, NONE, NONE, 0, NONE, NONE}};
        Asked keys = CHECK.asked(TEXT);
        table(keys, "way", due);
        CHECK.due(keys, Calls.written("way", BOYS, 0), BAD);
        CHECK.due(keys, Calls.written("way", 0, PLACES), BAD);
        for (int d = 0; d < DOORS; d++) {
            keys.does(Calls.written("props", d, 1));
        }
        for (int place = 0; place < PLACES; place++) {
            CHECK.due(keys, Calls.written("way", 0, place), Math.min(place, 8 - place));
            CHECK.due(keys, Calls.written("way", 3, place), Math.min(7 - place, place + 1));
        }
    }

    private static void posts() {
        CHECK.sentence("Promise 15: posts");
        Asked keys = CHECK.asked(TEXT);
        rows(keys, new String[] {"posts(-1)", "posts(0)", "posts(1)", "posts(2)", "posts(3)", "posts(4)", "posts(5)"},
            5, 0, 1, 4, 5, 3, BAD);
        keys.does("colds(4, 1)");
        rows(keys, new String[] {"posts(-1)", "posts(0)", "posts(1)", "posts(2)", "posts(3)", "posts(4)", "posts(-2)"},
            4, 0, 1, 3, 5, NONE, BAD);
    }

    private static void tune() {
        CHECK.sentence("Promise 16: tune");
        int[] due = new int[1 << BOYS];
        Arrays.fill(due, NONE);
        due[0] = 0;
        due[2] = 29;
        due[1 | 2] = 25;
        due[4] = 13;
        due[8] = 19;
        due[1 | 8] = 20;
        due[1 | 2 | 8] = 24;
        due[4 | 8] = 18;
        due[4 | 16] = 12;
        Asked keys = CHECK.asked(TEXT);
        table(keys, "tune", due);
        CHECK.due(keys, "tune(32)", BAD);
        CHECK.due(keys, "tune(-1)", BAD);
    }

    private static void thirds() {
        CHECK.sentence("Promise 17: thirds");
        int[][] due = {{BAD, 8, 2, 10, 0}, {8, BAD, 0, 6, 0}, {2, 0, BAD, 2, 1}, {10, 6, 2, BAD, 0}, {0, 0, 1, 0, BAD}};
        Asked keys = CHECK.asked(TEXT);
        table(keys, "thirds", due);
        keys.does("props(0, 1)", "props(4, 1)");
        table(keys, "thirds", due);
        CHECK.due(keys, "thirds(4, 5)", BAD);
    }

    private static void odds() {
        CHECK.sentence("Promise 18: odds");
        Asked keys = CHECK.asked(TEXT);
        int[][] due = {{5, 0, 1, 8}, {5, 1, 1, 2}, {5, 2, 7, 8}, {5, 3, 1, 1}, {5, 5, 1, 1}, {1, 0, 729, 1000}, {1, 1, 243, 250},
            {1, 2, 999, 1000}, {10, 2, 0, 1}, {10, 3, 1, 1}, {0, 0, 1, 1}};
        for (int[] row : due) {
            CHECK.due(keys, Calls.written("odds", row[0], row[1], 0), row[2]);
            CHECK.due(keys, Calls.written("odds", row[0], row[1], 1), row[3]);
        }
        rows(keys.does("year()"), new String[] {"odds(1, 0, 0)", "odds(1, 0, 1)", "odds(11, 0, 0)", "odds(1, 6, 0)"},
            81, 100, BAD, BAD);
    }

    // ---- who went by, kinds, images

    private static void heard() {
        CHECK.sentence("Promises 19, 21, 22: hears, who, ask");
        Asked keys = CHECK.asked(TEXT);
        rows(keys, new String[] {"who()", "ask()", "hears(1, 1)", "who()", "ask()"}, 31, 0, 1, 11, 0);
        rows(keys, new String[] {"hears(0, 1)", "who()", "ask()", "hears(2, 0)", "who()", "ask()"}, 2, 9, 2, 3, 8, NONE);
        rows(keys, new String[] {"hears(7, 0)", "hears(6, 1)", "hears(5, 1)", "who()", "hears(4, 0)", "hears(8, 0)", "count(4)"},
            4, 5, 6, 8, FULL, BAD, 6);
        rows(keys, new String[] {"colds(3, 1)", "who()", "undo()", "who()"}, 0, 0, 0, 8);
    }

    private static void forget() {
        CHECK.sentence("Promise 20: forget");
        Asked keys = CHECK.asked(TEXT).does(6, "hears(7, 0)");
        rows(keys, new String[] {"who()", "forget()", "who()", "forget()", "hears(3, 1)", "who()", "ask()", "hears(4, 0)", "who()"},
            29, 6, 31, 0, 1, 20, 4, 2, 16);
    }

    private static void rate() {
        CHECK.sentence("Promises 23, 27: rate, trace");
        int[][] due = {{8, 9, 14, 20, 10}, {36, 49, 32, 44, 22}, {3, 5, 12, 16, 9}, {72, 98, 64, 88, 44}, {3, 6, 14, 19, 13},
            {8, 13, 17, 27, 15}};
        Asked keys = CHECK.asked(TEXT);
        table(keys, "rate", due);
        CHECK.due(keys, "trace()", 5 * (1 + 11 + 101 + 1011 + 10101 + 100001));
        rows(keys, new String[] {"rate(6, 0)", "rate(0, 5)", "trace()"}, -1000000, -1000000, 556130);
        rows(keys.does(DEEDS), new String[] {"rate(5, 3)", "rate(4, 2)", "rate(3, 4)", "trace()"}, 27, 13, 22, 667243);
    }

    private static void images() {
        CHECK.sentence("Promises 24 to 26: keep, back, count");
        Asked keys = CHECK.asked(TEXT);
        CHECK.due(keys, "keep(0)", 0);
        CHECK.due(keys, "back(1)", STATE);
        keys.does(DEEDS);
        CHECK.due(keys, "keep(1)", 1);
        CHECK.due(keys, "now(4)", 10);
        CHECK.due(keys, "back(0)", 0);
        asTold(keys);
        CHECK.due(keys, "undo()", STATE);
        CHECK.due(keys, "back(1)", 1);
        asThen(keys);
        CHECK.due(keys, "undo()", STATE);
        counts(keys, 8, 8, 5, 40, 0, 0);
        rows(keys, new String[] {"keep(2)", "back(2)", "count(6)"}, BAD, BAD, BAD);
    }
}
