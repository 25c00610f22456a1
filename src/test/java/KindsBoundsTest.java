/** Part 4 of the document and promises 23 to 27, sentence by sentence, at its bounds. */
final class KindsBoundsTest {
    private static final Check CHECK = new Check("KindsBoundsTest");
    private static final int NO = -1000000, NONE = -9, BAD = -1, STATE = -2;
    private static final int[] FAR = {Integer.MIN_VALUE, Integer.MAX_VALUE};
    private static final String CITY = "n3;d0 1 20;d1 2 30;d0 2 40;b20 30 8 10 0;b30 40 9 12 2;";
    private static final long[] TRACES = {1, 11, 101, 1011, 10101, 100001};

    public static void main(String[] args) {
        kindsAndBoys();
        ages();
        highest();
        opened();
        numbers();
        places();
        traceAtFirst();
        traceOfEachBody();
        traceOfMany();
        theLastCall();
        imagesKept();
        imagesKeepNow();
        imagesAreCopies();
        imagesKeepNothingElse();
        nothingUndoneBehindBack();
        backRefused();
        readAnew();
        traceGoesOn();
        counts();
        CHECK.end();
    }

    private static void kindsAndBoys() {
        CHECK.sentence("1 TREBLE, 2 ALTO, 5 BASS (each under BOY); 3 SOLOIST (under TREBLE); 4 TWIN (under ALTO).");
        Asked keys = CHECK.asked(CITY);
        int[] first = {8, 38, 6, 76, 6, 8};
        int[] last = {9, 49, 7, 98, 8, 11};
        for (int kind = 0; kind <= 5; kind++) {
            CHECK.due(keys, Calls.written("rate", kind, 0), first[kind]);
            CHECK.due(keys, Calls.written("rate", kind, 1), last[kind]);
        }
        CHECK.sentence("RATE. NO: BAD.");
        for (int kind = 0; kind <= 5; kind++) {
            CHECK.due(keys, Calls.written("rate", kind, 2), NO);
            CHECK.due(keys, Calls.written("rate", kind, -1), NO);
            CHECK.due(new Asked(), Calls.written("rate", kind, 0), NO);
            for (int far : FAR) {
                CHECK.due(keys, Calls.written("rate", kind, far), NO);
            }
        }
        CHECK.due(keys, "rate(-1, 0)", NO);
        CHECK.due(keys, "rate(6, 0)", NO);
        CHECK.due(keys, "rate(6, 2)", NO);
        CHECK.due(keys, "rate(-1, -1)", NO);
        for (int far : FAR) {
            CHECK.due(keys, Calls.written("rate", far, 0), NO);
            CHECK.due(keys, Calls.written("rate", far, far), NO);
        }
        Asked five = CHECK.asked("b0 1 20 7 0;".repeat(5));
        CHECK.due(five, "rate(0, 4)", 20);
        CHECK.due(five, "rate(0, 5)", NO);
    }

    private static void ages() {
        CHECK.sentence("BOY his AGE (1).");
        Asked keys = CHECK.asked("b0 1 7 8 0;b0 1 20 7 0;");
        CHECK.due(keys, "rate(0, 0)", 7);
        CHECK.due(keys, "rate(0, 1)", 20);
        keys.does(99, "year()");
        CHECK.due(keys, "rate(0, 0)", 106);
        CHECK.due(keys, "rate(0, 1)", 119);
    }

    private static void highest() {
        CHECK.sentence("TREBLE up, and the highest that he SINGS (10).");
        CHECK.due(CHECK.asked("b0 0 7 8 0;"), "rate(1, 0)", 7);
        CHECK.due(CHECK.asked("b40 40 7 8 0;"), "rate(1, 0)", 47);
        CHECK.due(CHECK.asked("b0 0 20 20 0;"), "rate(1, 0)", 8);
        CHECK.due(CHECK.asked("b0 0 7 7 0;").does("colds(0, 9)"), "rate(1, 0)", -14);
        CHECK.due(CHECK.asked("b5 5 7 8 0;").does("colds(0, 9)"), "rate(1, 0)", 3);
        CHECK.sentence("SOLOIST twice up (1000).");
        CHECK.due(CHECK.asked("b0 0 7 8 0;"), "rate(3, 0)", 14);
        CHECK.due(CHECK.asked("b40 40 7 8 0;"), "rate(3, 0)", 94);
        CHECK.due(CHECK.asked("b0 0 7 7 0;").does("colds(0, 9)"), "rate(3, 0)", -28);
    }

    private static void opened() {
        CHECK.sentence("ALTO up less how many DOORS he OPENS (100).");
        CHECK.due(CHECK.asked("b0 0 7 8 0;"), "rate(2, 0)", 7);
        CHECK.due(CHECK.asked("d0 1 1;".repeat(8) + "b0 0 7 8 0;"), "rate(2, 0)", 7);
        CHECK.due(CHECK.asked("d0 1 1;".repeat(8) + "b1 1 7 8 0;"), "rate(2, 0)", -1);
        CHECK.due(CHECK.asked("d0 1 1;".repeat(8) + "b2 2 7 8 0;").does("props(7, 1)"), "rate(2, 0)", 6);
        CHECK.due(CHECK.asked("d0 1 1;".repeat(8) + "b1 1 7 8 0;").does("props(7, 1)"), "rate(2, 0)", -1);
        CHECK.due(CHECK.asked("d0 1 1;d0 1 9;b1 9 7 8 0;").does("colds(0, 1)"), "rate(2, 0)", 6);
        CHECK.due(CHECK.asked("d0 1 13;d0 1 9;b9 13 7 8 0;").does("year()"), "rate(2, 0)", 8);
    }

    private static void numbers() {
        CHECK.sentence("TWIN up, and his number (10000).");
        Asked keys = CHECK.asked("d0 1 1;".repeat(8) + "b1 1 7 8 0;".repeat(5));
        for (int b = 0; b < 5; b++) {
            CHECK.due(keys, Calls.written("rate", 4, b), b - 1);
        }
        CHECK.due(keys, "rate(4, 5)", NO);
    }

    private static void places() {
        CHECK.sentence("BASS up, and the PLACE where he is (100000).");
        Asked keys = CHECK.asked("n8;d0 7 5;b5 5 7 8 0;b5 5 7 8 7;");
        CHECK.due(keys, "rate(5, 0)", 7);
        CHECK.due(keys, "rate(5, 1)", 14);
        keys.does("goes(0, 0)", "goes(1, 0)");
        CHECK.due(keys, "rate(5, 0)", 14);
        CHECK.due(keys, "rate(5, 1)", 7);
    }

    private static void traceAtFirst() {
        CHECK.sentence("THE TRACE, 0 at first");
        CHECK.due(new Asked(), "trace()", 0);
        CHECK.due(CHECK.asked(CITY), "trace()", 0);
        Asked keys = CHECK.asked(CITY);
        keys.does("boy(0, 1)", "boy(0, 2)", "boy(0, 7)", "now(3)", "door(0, 4)", "goes(0, 0)", "year()", "who()", "ask()",
            "keep(0)", "back(0)", "undo()", "posts(-1)", "trace()");
        CHECK.due(keys, "trace()", 0);
    }

    private static void traceOfEachBody() {
        CHECK.sentence("as often as rate() asks that body: each once");
        for (int kind = 0; kind <= 5; kind++) {
            Asked keys = CHECK.asked(CITY).does(Calls.written("rate", kind, 0));
            CHECK.due(kind + ", trace()", keys.answers("trace()"), TRACES[kind]);
            keys.does(Calls.written("rate", kind, 1));
            CHECK.due(kind + " twice, trace()", keys.answers("trace()"), 2 * TRACES[kind]);
            keys.does(Calls.written("rate", kind, 2), Calls.written("rate", kind, -1), "rate(6, 0)", "rate(-1, 0)");
            CHECK.due(kind + " refused, trace()", keys.answers("trace()"), 2 * TRACES[kind]);
        }
    }

    private static void traceOfMany() {
        CHECK.sentence("numbers in brackets are added to THE TRACE");
        Asked keys = CHECK.asked(CITY);
        long due = 0;
        for (int times = 1; times <= 30; times++) {
            for (int kind = 0; kind <= 5; kind++) {
                keys.does(Calls.written("rate", kind, times % 2));
                due += TRACES[kind];
            }
            CHECK.due(keys, "trace()", due);
        }
    }

    private static void theLastCall() {
        CHECK.sentence("An object is used for at most 512 calls after it has been made");
        Asked bass = CHECK.asked("b0 1 7 8 0;").does(499, "rate(5, 0)");
        CHECK.due(bass, "trace()", 499 * 100001L);
        Asked deeds = CHECK.asked("d0 1 0;s1;").does(500, "michaelmas()");
        CHECK.due(deeds, "door(0, 2)", 500 % 41);
    }

    private static void imagesKept() {
        CHECK.sentence("An IMAGE is kept: YEAR. BAD.");
        Asked keys = CHECK.asked(CITY);
        CHECK.due(keys, "keep(0)", 0);
        CHECK.due(keys, "keep(1)", 0);
        CHECK.due(keys, "keep(2)", BAD);
        CHECK.due(keys, "keep(-1)", BAD);
        for (int far : FAR) {
            CHECK.due(keys, Calls.written("keep", far), BAD);
        }
        keys.does("year()");
        CHECK.due(keys, "keep(1)", 1);
        CHECK.due(keys, "back(0)", 0);
        CHECK.due(keys, "back(1)", 1);
        keys.does(98, "year()");
        CHECK.due(keys, "keep(0)", 99);
        CHECK.due(keys, "now(4)", 10);
        CHECK.due(keys, "back(1)", 1);
        CHECK.due(keys, "back(0)", 99);
        CHECK.due(keys, "year()", STATE);
        CHECK.due(new Asked(), "keep(1)", 0);
    }

    private static void imagesKeepNow() {
        CHECK.sentence("IMAGES 0, 1 keep NOW (where BOYS are, AGES, COLDS, PITCHES, what is PROPPED, YEAR)");
        for (int image = 0; image <= 1; image++) {
            Asked keys = CHECK.asked("d0 1 20;d1 0 24;b20 30 8 10 0;b16 40 9 12 1;");
            keys.does("year()", "goes(0, 0)", "colds(1, 9)", "props(1, 1)", "michaelmas()", Calls.written("keep", image));
            String[] looks = {"now(0)", "boy(0, 5)", "boy(1, 5)", "boy(0, 2)", "boy(1, 2)", "boy(0, 6)", "boy(1, 6)",
                "door(0, 2)", "door(1, 2)", "now(1)"};
            int[] kept = {1, 1, 1, 9, 10, 0, 9, 25, 29, 2};
            int[] then = {2, 1, 0, 10, 11, 3, 0, 30, 34, 1};
            keys.does("year()", "goes(1, 1)", "michaelmas()", "props(1, 0)", "props(0, 1)", "colds(0, 3)");
            looks(keys, looks, then);
            CHECK.due(keys, Calls.written("back", image), 1);
            looks(keys, looks, kept);
            CHECK.due(keys, Calls.written("back", 1 - image), STATE);
            looks(keys, looks, kept);
        }
    }

    private static void looks(Asked keys, String[] looks, int[] due) {
        for (int i = 0; i < looks.length; i++) {
            CHECK.due(keys, looks[i], due[i]);
        }
    }

    private static void imagesAreCopies() {
        CHECK.sentence("All of that becomes as an IMAGE has it: YEAR.");
        Asked keys = CHECK.asked(CITY).does("keep(0)", "year()", "colds(0, 9)", "keep(1)", "year()");
        for (int times = 0; times < 3; times++) {
            CHECK.due(keys, "back(0)", 0);
            CHECK.due(keys, "boy(0, 6)", 0);
            keys.does("colds(0, 5)", "goes(0, 0)", "michaelmas()", "props(0, 1)", "year()");
            CHECK.due(keys, "back(1)", 1);
            CHECK.due(keys, "boy(0, 6)", 9);
            CHECK.due(keys, "boy(0, 5)", 0);
            CHECK.due(keys, "door(0, 2)", 20);
            CHECK.due(keys, "now(1)", 0);
            keys.does("undo()", "year()", "undo()");
            CHECK.due(keys, "now(0)", 1);
            keys.does("year()", "year()");
        }
        CHECK.due(keys, "keep(0)", 3);
        CHECK.due(keys, "back(0)", 3);
        CHECK.due(keys, "back(1)", 1);
    }

    private static void imagesKeepNothingElse() {
        CHECK.sentence("nothing else");
        Asked keys = CHECK.asked(CITY).does("hears(0, 1)", "rate(0, 0)").types("s7;");
        keys.does("keep(0)", "hears(1, 0)", "rate(0, 0)", "keep(1)", "forget()", "hears(1, 1)", "hears(0, 0)", "hears(0, 0)");
        keys.types("x").does("rate(0, 0)");
        CHECK.due(keys, "back(0)", 0);
        CHECK.due(keys, "count(4)", 3);
        CHECK.due(keys, "count(5)", 4);
        CHECK.due(keys, "trace()", 3);
        CHECK.due(keys, "who()", 2);
        CHECK.due(keys, "back(1)", 0);
        CHECK.due(keys, "city()", -13);
        CHECK.due(keys, "count(0)", 3);
    }

    private static void nothingUndoneBehindBack() {
        CHECK.sentence("(nothing can be UNDONE behind back())");
        Asked keys = CHECK.asked(CITY).does("keep(0)");
        CHECK.due(keys, "back(0)", 0);
        CHECK.due(keys, "undo()", STATE);
        keys.does(12, "michaelmas()");
        CHECK.due(keys, "now(4)", 10);
        CHECK.due(keys, "keep(1)", 0);
        CHECK.due(keys, "now(4)", 10);
        CHECK.due(keys, "back(1)", 0);
        CHECK.due(keys, "now(4)", 0);
        CHECK.due(keys, "undo()", STATE);
        CHECK.due(keys, "door(0, 2)", 39);
        keys.does("year()");
        CHECK.due(keys, "now(4)", 1);
        CHECK.due(keys, "undo()", 0);
        CHECK.due(keys, "undo()", STATE);
        CHECK.due(keys, "now(0)", 0);
    }

    private static void backRefused() {
        CHECK.sentence("BAD; STATE: none was kept.");
        Asked keys = CHECK.asked(CITY).does("year()", "year()");
        CHECK.due(keys, "back(0)", STATE);
        CHECK.due(keys, "back(1)", STATE);
        CHECK.due(keys, "back(2)", BAD);
        CHECK.due(keys, "back(-1)", BAD);
        for (int far : FAR) {
            CHECK.due(keys, Calls.written("back", far), BAD);
        }
        CHECK.due(keys, "now(4)", 2);
        CHECK.due(keys, "now(0)", 2);
        keys.does("keep(1)");
        CHECK.due(keys, "back(0)", STATE);
        CHECK.due(keys, "now(4)", 2);
        CHECK.due(keys, "back(1)", 2);
        CHECK.due(keys, "now(4)", 0);
        CHECK.due(keys, "back(2)", BAD);
    }

    private static void readAnew() {
        CHECK.sentence("(Read anew: as told (what is not told as at first), nothing HEARD, IMAGES are gone, nothing can be UNDONE");
        for (String text : new String[] {"", "  ", "n4;", "s6;", "b1 2 7 8 1;", CITY}) {
            Asked keys = CHECK.asked("n8;d6 7 9;s9;b9 9 7 8 7;").does("keep(0)", "keep(1)", "hears(0, 1)", "props(0, 1)",
                "goes(0, 0)", "colds(0, 2)", "michaelmas()", "year()").types(text);
            boolean city = text.equals(CITY);
            CHECK.due("city() of \"" + text + "\"", keys.answers("city()"), city ? 6 : text.trim().isEmpty() ? 0 : 1);
            CHECK.due(keys, "count(0)", text.startsWith("n") ? text.charAt(1) - '0' : 2);
            CHECK.due(keys, "count(1)", city ? 3 : 0);
            CHECK.due(keys, "count(2)", city ? 2 : text.startsWith("b") ? 1 : 0);
            CHECK.due(keys, "count(3)", text.startsWith("s") ? 6 : 5);
            CHECK.due(keys, "count(4)", 0);
            CHECK.due(keys, "count(5)", 0);
            CHECK.due(keys, "now(0)", 0);
            CHECK.due(keys, "now(1)", 0);
            CHECK.due(keys, "now(4)", 0);
            CHECK.due(keys, "undo()", STATE);
            CHECK.due(keys, "back(0)", STATE);
            CHECK.due(keys, "back(1)", STATE);
            CHECK.due(keys, "forget()", 0);
            CHECK.due(keys, "door(0, 2)", city ? 20 : BAD);
            CHECK.due(keys, "boy(0, 6)", city || text.startsWith("b") ? 0 : NO);
        }
    }

    private static void traceGoesOn() {
        CHECK.sentence("THE TRACE goes on, as behind undo(), back().)");
        Asked keys = CHECK.asked(CITY).does("keep(0)", "year()", "rate(5, 0)");
        CHECK.due(keys, "trace()", 100001);
        CHECK.due(keys, "undo()", 0);
        CHECK.due(keys, "trace()", 100001);
        CHECK.due(keys, "rate(4, 1)", 8);
        CHECK.due(keys, "back(0)", 0);
        CHECK.due(keys, "trace()", 110102);
        CHECK.due(keys, "city()", 0);
        CHECK.due(keys, "trace()", 110102);
        CHECK.due(keys, "rate(0, 0)", NO);
        CHECK.due(keys.types("b0 1 7 8 0;"), "city()", 1);
        CHECK.due(keys, "rate(0, 0)", 7);
        CHECK.due(keys, "trace()", 110103);
        CHECK.due(keys.types("x"), "city()", -10);
        CHECK.due(keys, "trace()", 110103);
    }

    private static void counts() {
        CHECK.sentence("0 PLACES, 1 DOORS, 2 BOYS, 3 STEP, 4 HEARD, 5 letters of THE TEXT. BAD.");
        Asked full = CHECK.asked("n8;" + "d0 1 5;".repeat(8) + "b5 5 7 8 0;".repeat(5) + "s40;").does(7, "hears(7, 1)");
        full.types(" ".repeat(151));
        int[] most = {8, 8, 5, 40, 6, 150};
        Asked empty = CHECK.asked("n1;s0;");
        int[] least = {1, 0, 0, 0, 0, 0};
        for (int what = 0; what <= 5; what++) {
            CHECK.due(full, Calls.written("count", what), most[what]);
            CHECK.due(empty, Calls.written("count", what), least[what]);
        }
        CHECK.due(full, "count(6)", BAD);
        CHECK.due(full, "count(-1)", BAD);
        CHECK.due(full, "count(" + NONE + ")", BAD);
        for (int far : FAR) {
            CHECK.due(full, Calls.written("count", far), BAD);
            CHECK.due(empty, Calls.written("count", far), BAD);
        }
    }
}
