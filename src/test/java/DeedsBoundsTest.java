/** Part 2 of the document and promises 5 to 13, sentence by sentence, at its bounds. */
final class DeedsBoundsTest {
    private static final Check CHECK = new Check("DeedsBoundsTest");
    private static final int NO = -1000000, NONE = -9, BAD = -1, STATE = -2;
    private static final int[] FAR = {-1, Integer.MIN_VALUE, Integer.MAX_VALUE};

    public static void main(String[] args) {
        theBeginning();
        fromLowToHigh();
        asSoonAsBroken();
        brokenBelowNothing();
        byACold();
        opensOrPropped();
        gone();
        coldsByN();
        propped();
        years();
        yearsOfAllAges();
        michaelmas();
        undone();
        eachDeedUndone();
        refusedOnesAreNotUndone();
        door();
        boy();
        now();
        goes();
        colds();
        props();
        year();
        michaelmasAnswers();
        undo();
        CHECK.end();
    }

    private static void theBeginning() {
        CHECK.sentence("All BOYS are at HOME at first, have no COLD, no DOOR is PROPPED, YEAR 0.");
        Asked keys = CHECK.asked("n8;d1 7 1;d7 0 28;b0 40 7 20 7;b0 40 20 7 0;b0 40 8 8 3;");
        atTheBeginning(keys);
        keys.does("goes(0, 0)", "goes(1, 1)", "colds(0, 9)", "colds(2, 1)", "props(0, 1)", "props(1, 1)", "year()",
            "colds(1, 3)", "michaelmas()");
        CHECK.due(keys, "now(2)", 4);
        keys.types("n8;d1 7 1;d7 0 28;b0 40 7 20 7;b0 40 20 7 0;b0 40 8 8 3;");
        CHECK.due(keys, "city()", 6);
        atTheBeginning(keys);
    }

    private static void atTheBeginning(Asked keys) {
        int[] homes = {7, 0, 3};
        int[] ages = {7, 20, 8};
        for (int b = 0; b < homes.length; b++) {
            CHECK.due(keys, Calls.written("boy", b, 2), ages[b]);
            CHECK.due(keys, Calls.written("boy", b, 5), homes[b]);
            CHECK.due(keys, Calls.written("boy", b, 6), 0);
        }
        CHECK.due(keys, "door(0, 3)", 0);
        CHECK.due(keys, "door(1, 3)", 0);
        CHECK.due(keys, "door(0, 2)", 1);
        CHECK.due(keys, "door(1, 2)", 28);
        int[] now = {0, 0, 7, 1, 0};
        for (int what = 0; what < now.length; what++) {
            CHECK.due(keys, Calls.written("now", what), now[what]);
        }
    }

    /** Which of 41 pitches a boy sings is looked at by his keys, eight doors a time. */
    private static void sings(String boy, int lowest, int highest, String... deeds) {
        for (int from = 0; from <= 40; from += 8) {
            StringBuilder text = new StringBuilder();
            int due = 0;
            for (int pitch = from; pitch < from + 8; pitch++) {
                text.append("d0 1 ").append(Math.min(pitch, 40)).append(';');
                if (Math.min(pitch, 40) >= lowest && Math.min(pitch, 40) <= highest) {
                    due |= 1 << pitch - from;
                }
            }
            Asked keys = CHECK.asked(text + boy).does(deeds);
            CHECK.due(boy + " pitches from " + from + ", keys", keys.answers("boy(0, 7)"), due);
            for (int d = 0; d < 8; d++) {
                CHECK.due(boy + " pitch " + (from + d) + ", opened by", keys.answers(Calls.written("door", d, 4)), due >> d & 1);
            }
            CHECK.due(keys, "boy(0, 0)", lowest);
            CHECK.due(keys, "boy(0, 1)", highest);
        }
    }

    private static void fromLowToHigh() {
        CHECK.sentence("A BOY SINGS from LOW to HIGH");
        sings("b0 40 7 8 0;", 0, 40);
        sings("b0 0 7 8 0;", 0, 0);
        sings("b40 40 7 8 0;", 40, 40);
        sings("b19 21 7 8 0;", 19, 21);
        sings("b20 20 7 8 0;", 20, 20);
    }

    private static void asSoonAsBroken() {
        CHECK.sentence("as soon as his AGE is BREAKS or more, 12 less of both");
        for (int age = 7; age <= 20; age++) {
            for (int breaks = 7; breaks <= 20; breaks++) {
                Asked keys = CHECK.asked("b20 30 " + age + " " + breaks + " 0;");
                CHECK.due(age + " of " + breaks + ", lowest", keys.answers("boy(0, 0)"), age >= breaks ? 8 : 20);
                CHECK.due(age + " of " + breaks + ", highest", keys.answers("boy(0, 1)"), age >= breaks ? 18 : 30);
                keys.does("year()");
                CHECK.due(age + " of " + breaks + " and a year", keys.answers("boy(0, 0)"), age + 1 >= breaks ? 8 : 20);
                CHECK.due(age + " of " + breaks + " and a year", keys.answers("boy(0, 1)"), age + 1 >= breaks ? 18 : 30);
            }
        }
        sings("b20 24 7 8 0;", 20, 24);
        sings("b20 24 8 8 0;", 8, 12);
        sings("b20 24 9 8 0;", 8, 12);
        sings("b20 24 7 9 0;", 20, 24, "year()");
        sings("b20 24 7 8 0;", 8, 12, "year()");
        sings("b20 24 7 8 0;", 20, 24, "year()", "undo()");
    }

    private static void brokenBelowNothing() {
        CHECK.sentence("12 less of both");
        sings("b12 12 8 7 0;", 0, 0);
        sings("b11 12 8 7 0;", -1, 0);
        sings("b11 11 8 7 0;", -1, -1);
        sings("b0 11 8 7 0;", -12, -1);
        sings("b0 12 8 7 0;", -12, 0);
        sings("b0 0 8 7 0;", -12, -12);
        sings("b0 40 8 7 0;", -12, 28);
        sings("b40 40 20 20 0;", 28, 28);
    }

    private static void byACold() {
        CHECK.sentence("by a COLD of c his highest is c less");
        for (int c = 1; c <= 9; c++) {
            sings("b20 30 7 8 0;", 20, 30 - c, "colds(0, " + c + ")");
            sings("b20 24 7 8 0;", 20, 24 - c, "colds(0, " + c + ")");
        }
        sings("b20 29 7 8 0;", 20, 20, "colds(0, 9)");
        sings("b20 28 7 8 0;", 20, 19, "colds(0, 9)");
        sings("b20 20 7 8 0;", 20, 19, "colds(0, 1)");
        sings("b0 0 7 8 0;", 0, -9, "colds(0, 9)");
        sings("b12 21 8 8 0;", 0, 0, "colds(0, 9)");
        sings("b0 0 8 8 0;", -12, -21, "colds(0, 9)");
        sings("b20 30 7 8 0;", 20, 30, "colds(0, 9)", "colds(0, 0)");
        sings("b20 30 7 9 0;", 20, 30, "colds(0, 9)", "year()");
    }

    private static void opensOrPropped() {
        CHECK.sentence("He OPENS a DOOR, if its PITCH is one that he SINGS, or it is PROPPED.");
        Asked keys = CHECK.asked("d0 1 19;d0 1 20;d0 1 30;d0 1 31;b20 30 7 20 0;b0 0 7 20 0;");
        CHECK.due(keys, "boy(0, 7)", 6);
        CHECK.due(keys, "boy(1, 7)", 0);
        for (int d = 0; d < 4; d++) {
            keys.does(Calls.written("props", d, 1));
            CHECK.due(keys, Calls.written("door", d, 4), 3);
            CHECK.due(keys, "boy(0, 7)", 6 | 1 << d);
            CHECK.due(keys, "boy(1, 7)", 1 << d);
            keys.does(Calls.written("props", d, 0));
            CHECK.due(keys, Calls.written("door", d, 4), d == 1 || d == 2 ? 1 : 0);
        }
    }

    private static void gone() {
        CHECK.sentence("a BOY goes through a DOOR of the PLACE where he is, that he OPENS, to the other one.");
        Asked keys = CHECK.asked("n8;d0 7 1;d7 0 1;d7 6 2;d1 6 1;d7 6 1;b1 1 7 8 0;");
        CHECK.due(keys, "goes(0, 0)", 7);
        CHECK.due(keys, "goes(0, 0)", 0);
        CHECK.due(keys, "goes(0, 1)", 7);
        CHECK.due(keys, "goes(0, 1)", 0);
        CHECK.due(keys, "goes(0, 3)", STATE);
        CHECK.due(keys, "goes(0, 4)", STATE);
        CHECK.due(keys, "boy(0, 5)", 0);
        CHECK.due(keys, "goes(0, 0)", 7);
        CHECK.due(keys, "goes(0, 2)", STATE);
        CHECK.due(keys, "boy(0, 5)", 7);
        CHECK.due(keys, "goes(0, 4)", 6);
        CHECK.due(keys, "goes(0, 3)", 1);
        CHECK.due(keys, "boy(0, 5)", 1);
        CHECK.due(keys, "boy(0, 4)", 0);
    }

    private static void coldsByN() {
        CHECK.sentence("A COLD: he has it by n (0 .. 9).");
        Asked keys = CHECK.asked("b20 30 7 8 0;b20 30 8 8 1;");
        CHECK.due(keys, "colds(0, -1)", BAD);
        for (int n = 1; n <= 9; n++) {
            CHECK.due(keys, Calls.written("colds", 0, n), n - 1);
            CHECK.due(keys, "boy(0, 6)", n);
            CHECK.due(keys, "boy(1, 6)", 0);
        }
        CHECK.due(keys, "colds(0, 10)", BAD);
        CHECK.due(keys, "boy(0, 6)", 9);
        CHECK.due(keys, "colds(0, 0)", 9);
        CHECK.due(keys, "boy(0, 6)", 0);
        CHECK.due(keys, "colds(1, 9)", 0);
        CHECK.due(keys, "boy(1, 6)", 9);
        CHECK.due(keys, "boy(0, 6)", 0);
    }

    private static void propped() {
        CHECK.sentence("PROPPED (1), let go (0): a DOOR.");
        Asked keys = CHECK.asked("d0 1 1;".repeat(8));
        for (int d = 0; d < 8; d++) {
            CHECK.due(keys, Calls.written("props", d, 0), STATE);
            CHECK.due(keys, Calls.written("props", d, 1), d + 1);
            CHECK.due(keys, Calls.written("props", d, 1), STATE);
            CHECK.due(keys, Calls.written("door", d, 3), 1);
            CHECK.due(keys, "now(1)", (2 << d) - 1);
        }
        for (int d = 7; d >= 0; d--) {
            CHECK.due(keys, Calls.written("props", d, 0), d);
            CHECK.due(keys, Calls.written("door", d, 3), 0);
            CHECK.due(keys, "now(1)", (1 << d) - 1);
        }
    }

    private static void years() {
        CHECK.sentence("A YEAR goes by (99 at most)");
        Asked keys = CHECK.asked("d0 1 9;b20 24 7 20 0;");
        for (int year = 1; year <= 99; year++) {
            CHECK.due(keys, "year()", year == 13 ? 1 : 0);
            CHECK.due(keys, "now(0)", year);
        }
        keys.does("colds(0, 4)");
        CHECK.due(keys, "year()", STATE);
        CHECK.due(keys, "now(0)", 99);
        CHECK.due(keys, "boy(0, 2)", 106);
        CHECK.due(keys, "boy(0, 6)", 4);
        CHECK.due(keys, "now(4)", 10);
        CHECK.due(keys, "undo()", 9);
        CHECK.due(keys, "year()", STATE);
        CHECK.due(keys, "undo()", 8);
        CHECK.due(keys, "now(0)", 98);
        CHECK.due(keys, "year()", 0);
        CHECK.due(keys, "year()", STATE);
        CHECK.due(keys, "now(0)", 99);
    }

    private static void yearsOfAllAges() {
        CHECK.sentence("all AGES are 1 more, COLDS are gone.");
        Asked keys = CHECK.asked("b20 24 7 20 0;b20 24 20 7 0;b20 24 8 9 0;b20 24 9 8 0;b20 24 20 20 1;");
        for (int b = 0; b < 5; b++) {
            keys.does(Calls.written("colds", b, 9 - b));
        }
        int[] ages = {8, 21, 9, 10, 21};
        CHECK.due(keys, "year()", 1);
        for (int b = 0; b < 5; b++) {
            CHECK.due(keys, Calls.written("boy", b, 2), ages[b]);
            CHECK.due(keys, Calls.written("boy", b, 6), 0);
        }
        CHECK.due(keys, "undo()", 5);
        for (int b = 0; b < 5; b++) {
            CHECK.due(keys, Calls.written("boy", b, 2), ages[b] - 1);
            CHECK.due(keys, Calls.written("boy", b, 6), 9 - b);
        }
    }

    private static void michaelmas() {
        CHECK.sentence("each PITCH is STEP more, left over by 41.");
        int[] pitches = {0, 1, 5, 35, 36, 38, 39, 40};
        StringBuilder doors = new StringBuilder();
        for (int pitch : pitches) {
            doors.append("d0 1 ").append(pitch).append(';');
        }
        for (int step = 0; step <= 40; step++) {
            Asked keys = CHECK.asked(doors + "s" + step + ";");
            for (int times = 1; times <= 3; times++) {
                keys.does("michaelmas()");
                for (int d = 0; d < pitches.length; d++) {
                    CHECK.due("pitch " + pitches[d] + ", step " + step + ", " + times + " times",
                        keys.answers(Calls.written("door", d, 2)), (pitches[d] + times * step) % 41);
                }
            }
        }
        Asked around = CHECK.asked("d0 1 40;s1;");
        CHECK.due(around.does("michaelmas()"), "door(0, 2)", 0);
        CHECK.due(around.does(40, "michaelmas()"), "door(0, 2)", 40);
        Asked first = CHECK.asked("d0 1 35;d0 1 36;").does("michaelmas()");
        CHECK.due(first, "door(0, 2)", 40);
        CHECK.due(first, "door(1, 2)", 0);
    }

    private static void undone() {
        CHECK.sentence("(10 are known, older ones are lost)");
        for (int deeds = 0; deeds <= 23; deeds++) {
            Asked keys = CHECK.asked("d0 1 0;s1;b20 30 7 20 0;").does(deeds, "michaelmas()");
            int known = Math.min(deeds, 10);
            CHECK.due(keys, "now(4)", known);
            for (int left = known - 1; left >= 0; left--) {
                CHECK.due(deeds + " deeds, undo()", keys.answers("undo()"), left);
                CHECK.due(keys, "now(4)", left);
                CHECK.due(keys, "door(0, 2)", deeds - known + left);
            }
            CHECK.due(keys, "undo()", STATE);
            CHECK.due(keys, "now(4)", 0);
            CHECK.due(keys, "door(0, 2)", deeds - known);
            keys.does("colds(0, 1)");
            CHECK.due(keys, "now(4)", 1);
            CHECK.due(keys, "undo()", 0);
            CHECK.due(keys, "undo()", STATE);
        }
    }

    private static void eachDeedUndone() {
        CHECK.sentence("UNDONE: the latest goes(), colds(), props(), year(), michaelmas() that was not refused");
        String[] deeds = {"goes(0, 0)", "colds(0, 9)", "props(0, 1)", "year()", "michaelmas()"};
        String[] looks = {"boy(0, 5)", "boy(0, 6)", "now(1)", "now(0)", "door(0, 2)"};
        int[] before = {0, 2, 0, 1, 25};
        int[] behind = {1, 9, 1, 2, 30};
        for (int i = 0; i < deeds.length; i++) {
            Asked keys = CHECK.asked("d0 1 20;b20 40 7 20 0;").does("michaelmas()", "year()", "colds(0, 2)");
            CHECK.due(keys, "now(4)", 3);
            keys.does(deeds[i]);
            CHECK.due(deeds[i] + " " + looks[i], keys.answers(looks[i]), behind[i]);
            CHECK.due(keys, "now(4)", 4);
            CHECK.due(deeds[i] + " undo()", keys.answers("undo()"), 3);
            for (int look = 0; look < looks.length; look++) {
                CHECK.due(deeds[i] + " undone, " + looks[look], keys.answers(looks[look]), before[look]);
            }
            CHECK.due(keys, "boy(0, 2)", 8);
        }
    }

    private static void refusedOnesAreNotUndone() {
        CHECK.sentence("that was not refused");
        Asked keys = CHECK.asked("n3;d0 1 40;d1 2 20;d0 1 0;b20 40 7 20 0;").does(99, "year()");
        CHECK.due(keys, "goes(0, 0)", STATE);
        keys.does("michaelmas()", "props(0, 1)");
        String[] refused = {"year()", "goes(0, 1)", "goes(0, 2)", "goes(1, 0)", "goes(0, 3)", "colds(0, 0)", "colds(0, 10)",
            "colds(1, 1)", "props(0, 1)", "props(1, 0)", "props(3, 1)", "props(0, 2)"};
        for (String call : refused) {
            CHECK.holds(call + " is refused", keys.answers(call) < 0);
            CHECK.due(keys, "now(4)", 10);
        }
        CHECK.due(keys, "undo()", 9);
        CHECK.due(keys, "now(1)", 0);
        CHECK.due(keys, "undo()", 8);
        CHECK.due(keys, "door(0, 2)", 40);
        CHECK.due(keys, "undo()", 7);
        CHECK.due(keys, "now(0)", 98);
    }

    private static void door() {
        CHECK.sentence("Of a DOOR: 0, 1 its PLACES as told, 2 PITCH, 3 whether PROPPED (1, 0), 4 who OPENS it (bits). BAD.");
        Asked keys = CHECK.asked("n8;" + "d0 7 9;".repeat(7) + "d7 0 40;" + "b40 40 7 8 3;".repeat(5));
        int[] first = {0, 7, 9, 0, 0};
        int[] last = {7, 0, 40, 0, 31};
        for (int what = 0; what <= 4; what++) {
            CHECK.due(keys, Calls.written("door", 0, what), first[what]);
            CHECK.due(keys, Calls.written("door", 7, what), last[what]);
        }
        keys.does("props(0, 1)");
        CHECK.due(keys, "door(0, 3)", 1);
        CHECK.due(keys, "door(0, 4)", 31);
        for (int far : FAR) {
            CHECK.due(keys, Calls.written("door", far, 0), BAD);
            CHECK.due(keys, Calls.written("door", 0, far), BAD);
            CHECK.due(keys, Calls.written("door", far, far), BAD);
        }
        CHECK.due(keys, "door(8, 0)", BAD);
        CHECK.due(keys, "door(0, 5)", BAD);
        CHECK.due(keys, "door(7, 5)", BAD);
        Asked few = CHECK.asked("d0 1 9;d1 0 8;");
        CHECK.due(few, "door(1, 2)", 8);
        CHECK.due(few, "door(2, 2)", BAD);
        CHECK.due(few, "door(0, 4)", 0);
    }

    private static void boy() {
        CHECK.sentence("1 the highest (less than the lowest: none)");
        Asked low = CHECK.asked("b20 20 7 20 0;").does("colds(0, 9)");
        CHECK.due(low, "boy(0, 0)", 20);
        CHECK.due(low, "boy(0, 1)", 11);
        CHECK.due(CHECK.asked("b0 11 8 8 0;"), "boy(0, 1)", -1);
        CHECK.due(CHECK.asked("b0 10 8 8 0;"), "boy(0, 1)", -2);
        CHECK.due(CHECK.asked("b3 10 8 8 0;"), "boy(0, 0)", NONE);
        CHECK.sentence("6 COLD, 7 KEYS (bits), 8 REACH (bits), 9 SHUT (NONE). NO: BAD.");
        Asked keys = CHECK.asked("n8;" + "d0 7 40;".repeat(8) + "b40 40 7 9 3;".repeat(4) + "b39 40 20 19 7;");
        int[] first = {40, 40, 7, 9, 3, 3, 0, 255, 8, NONE};
        int[] last = {27, 28, 20, 19, 7, 7, 0, 0, 128, NONE};
        for (int what = 0; what <= 9; what++) {
            CHECK.due(keys, Calls.written("boy", 0, what), first[what]);
            CHECK.due(keys, Calls.written("boy", 4, what), last[what]);
        }
        for (int far : FAR) {
            CHECK.due(keys, Calls.written("boy", far, 0), NO);
            CHECK.due(keys, Calls.written("boy", 0, far), NO);
            CHECK.due(keys, Calls.written("boy", far, far), NO);
        }
        CHECK.due(keys, "boy(5, 0)", NO);
        CHECK.due(keys, "boy(0, 10)", NO);
        CHECK.due(keys, "boy(4, 10)", NO);
        Asked few = CHECK.asked("b1 2 7 8 0;b3 4 7 8 0;");
        CHECK.due(few, "boy(1, 0)", 3);
        CHECK.due(few, "boy(2, 0)", NO);
    }

    private static void now() {
        CHECK.sentence("0 YEAR, 1 what is PROPPED (bits), 2 who is at HOME (bits), 3 ALL (bits; NONE), 4 how many may be UNDONE. BAD.");
        Asked keys = CHECK.asked("d0 1 40;".repeat(8) + "b40 40 7 9 0;".repeat(5));
        int[] first = {0, 0, 31, 1, 0};
        for (int what = 0; what <= 4; what++) {
            CHECK.due(keys, Calls.written("now", what), first[what]);
        }
        for (int b = 0; b < 5; b++) {
            keys.does(Calls.written("goes", b, 7 - b));
            CHECK.due(keys, "now(2)", 31 & -(2 << b));
        }
        for (int d = 0; d < 8; d++) {
            keys.does(Calls.written("props", d, 1));
        }
        CHECK.due(keys, "now(1)", 255);
        CHECK.due(keys, "now(4)", 10);
        CHECK.due(keys, "goes(4, 0)", 0);
        CHECK.due(keys, "now(2)", 16);
        for (int far : FAR) {
            CHECK.due(keys, Calls.written("now", far), BAD);
        }
        CHECK.due(keys, "now(5)", BAD);
        CHECK.due(CHECK.asked("d0 1 1;b2 2 7 8 0;"), "now(3)", NONE);
    }

    private static void goes() {
        CHECK.sentence("GONE: the PLACE then. BAD; STATE: the DOOR is not there, he does not OPEN it.");
        Asked keys = CHECK.asked("n8;d0 7 20;d7 6 21;d6 5 20;d0 7 21;d0 7 19;d5 4 22;b20 20 7 8 0;b21 21 7 8 7;b22 22 7 8 4;");
        CHECK.due(keys, "goes(0, 0)", 7);
        CHECK.due(keys, "goes(0, 1)", STATE);
        CHECK.due(keys, "goes(0, 2)", STATE);
        CHECK.due(keys, "goes(0, 3)", STATE);
        CHECK.due(keys, "goes(0, 5)", STATE);
        CHECK.due(keys, "goes(1, 1)", 6);
        CHECK.due(keys, "goes(2, 5)", 5);
        CHECK.due(keys, "goes(0, 0)", 0);
        CHECK.due(keys, "goes(0, 3)", STATE);
        CHECK.due(keys, "goes(0, 4)", STATE);
        CHECK.due(keys, "goes(0, 6)", BAD);
        CHECK.due(keys, "goes(3, 0)", BAD);
        CHECK.due(keys, "goes(3, 6)", BAD);
        for (int far : FAR) {
            CHECK.due(keys, Calls.written("goes", far, 0), BAD);
            CHECK.due(keys, Calls.written("goes", 0, far), BAD);
        }
        CHECK.due(keys, "props(4, 1)", 1);
        CHECK.due(keys, "goes(0, 4)", 7);
        CHECK.due(keys, "now(4)", 6);
        CHECK.due(CHECK.asked("d0 1 7;"), "goes(0, 0)", BAD);
        CHECK.due(CHECK.asked("b1 2 7 8 0;"), "goes(0, 0)", BAD);
    }

    private static void colds() {
        CHECK.sentence("A COLD: by how much he had it. BAD; STATE: it is so.");
        Asked keys = CHECK.asked("b20 30 7 8 0;b20 30 7 8 0;");
        for (int n = 0; n <= 9; n++) {
            for (int then = 0; then <= 9; then++) {
                keys.does(Calls.written("colds", 1, n));
                CHECK.due(keys, Calls.written("colds", 1, then), then == n ? STATE : n);
            }
        }
        CHECK.due(keys, "colds(0, 0)", STATE);
        CHECK.due(keys, "colds(0, 10)", BAD);
        CHECK.due(keys, "colds(2, 0)", BAD);
        for (int far : FAR) {
            CHECK.due(keys, Calls.written("colds", 0, far), BAD);
            CHECK.due(keys, Calls.written("colds", far, 1), BAD);
        }
        CHECK.due(keys, "colds(0, 9)", 0);
        CHECK.due(keys, "colds(0, 9)", STATE);
        CHECK.due(keys, "year()", 2);
        CHECK.due(keys, "colds(0, 0)", STATE);
        CHECK.due(keys, "colds(0, 9)", 0);
        CHECK.due(new Asked(), "colds(0, 1)", BAD);
    }

    private static void props() {
        CHECK.sentence("PROPPED (is = 1), let go (0): how many are. BAD; STATE: it is so.");
        Asked keys = CHECK.asked("d0 1 1;d0 1 2;");
        CHECK.due(keys, "props(1, 0)", STATE);
        CHECK.due(keys, "props(1, 1)", 1);
        CHECK.due(keys, "props(1, 1)", STATE);
        CHECK.due(keys, "props(1, 2)", BAD);
        CHECK.due(keys, "props(2, 0)", BAD);
        CHECK.due(keys, "props(2, 1)", BAD);
        for (int far : FAR) {
            CHECK.due(keys, Calls.written("props", 0, far), BAD);
            CHECK.due(keys, Calls.written("props", far, 1), BAD);
            CHECK.due(keys, Calls.written("props", far, 0), BAD);
        }
        CHECK.due(keys, "now(1)", 2);
        CHECK.due(keys, "props(1, 0)", 0);
        CHECK.due(new Asked(), "props(0, 1)", BAD);
    }

    private static void year() {
        CHECK.sentence("A YEAR: how many voices break in it. STATE: it is 99.");
        for (int age = 7; age <= 20; age++) {
            Asked keys = CHECK.asked("b20 30 " + age + " 14 0;");
            CHECK.due("year() at the AGE of " + age, keys.answers("year()"), age == 13 ? 1 : 0);
        }
        Asked five = CHECK.asked("b20 30 7 8 0;b1 2 8 9 0;b1 1 19 20 1;b40 40 12 13 0;b0 40 9 10 1;");
        CHECK.due(five, "year()", 5);
        CHECK.due(five, "year()", 0);
        CHECK.due(five.does("undo()"), "undo()", 0);
        CHECK.due(five, "year()", 5);
        Asked none = new Asked();
        for (int year = 1; year <= 99; year++) {
            CHECK.due(none, "year()", 0);
        }
        CHECK.due(none, "year()", STATE);
        CHECK.due(none, "now(0)", 99);
    }

    private static void michaelmasAnswers() {
        CHECK.sentence("MICHAELMAS: how many DOORS are OPENED by nobody then.");
        CHECK.due(new Asked(), "michaelmas()", 0);
        CHECK.due(CHECK.asked("b0 40 7 8 0;"), "michaelmas()", 0);
        CHECK.due(CHECK.asked("d0 1 30;".repeat(8)), "michaelmas()", 8);
        CHECK.due(CHECK.asked("d0 1 30;".repeat(8) + "b35 35 7 8 0;"), "michaelmas()", 0);
        CHECK.due(CHECK.asked("d0 1 30;".repeat(8) + "b30 34 7 8 0;"), "michaelmas()", 8);
        CHECK.due(CHECK.asked("d0 1 36;d0 1 35;d0 1 40;d0 1 0;b0 4 7 8 0;b40 40 7 8 0;"), "michaelmas()", 1);
        CHECK.due(CHECK.asked("d0 1 30;d0 1 30;b0 1 7 8 0;").does("props(1, 1)"), "michaelmas()", 1);
        CHECK.due(CHECK.asked("d0 1 30;d0 1 29;b35 40 7 8 0;b34 34 7 8 0;").does("colds(1, 1)"), "michaelmas()", 1);
        Asked deed = new Asked().does("michaelmas()");
        CHECK.due(deed, "now(4)", 1);
        CHECK.due(deed, "undo()", 0);
    }

    private static void undo() {
        CHECK.sentence("UNDONE: how many more may be. STATE: none.");
        Asked keys = CHECK.asked("d0 1 20;b20 30 7 8 0;");
        CHECK.due(keys, "undo()", STATE);
        CHECK.due(keys, "now(4)", 0);
        keys.does("goes(0, 0)");
        CHECK.due(keys, "undo()", 0);
        CHECK.due(keys, "undo()", STATE);
        CHECK.due(keys, "undo()", STATE);
        keys.does(9, "michaelmas()");
        CHECK.due(keys, "undo()", 8);
        keys.does(2, "michaelmas()");
        CHECK.due(keys, "now(4)", 10);
        keys.does("michaelmas()");
        CHECK.due(keys, "now(4)", 10);
        CHECK.due(keys, "undo()", 9);
        keys.does(9, "undo()");
        CHECK.due(keys, "undo()", STATE);
        CHECK.due(keys, "door(0, 2)", 25);
    }
}
