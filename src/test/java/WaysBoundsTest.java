/** Part 3 of the document and promises 14 to 22, sentence by sentence, at its bounds. */
final class WaysBoundsTest {
    private static final Check CHECK = new Check("WaysBoundsTest");
    private static final int NONE = -9, BAD = -1, FULL = -3;
    private static final int[] FAR = {Integer.MIN_VALUE, Integer.MAX_VALUE};
    private static final String ROW = "n8;d0 1 5;d1 2 5;d2 3 5;d3 4 5;d4 5 5;d5 6 5;d6 7 5;";

    public static void main(String[] args) {
        reach();
        way();
        shutAtOnce();
        shutInYears();
        shutNever();
        shutPastTheLastYear();
        shutStaysWhereHeIs();
        keysOfABoy();
        all();
        allOfSeveral();
        posts();
        postsOfSeveral();
        postsAtTheBrim();
        postsOfWhom();
        tune();
        tuneOfSets();
        thirds();
        thirdsOfTwo();
        heard();
        heardAsHeIsNow();
        who();
        ask();
        askNone();
        askOfSeveral();
        odds();
        oddsNumbers();
        oddsOfWhom();
        forget();
        CHECK.end();
    }

    private static void reach() {
        CHECK.sentence("REACH of a BOY: PLACES (bits) to which he can come through DOORS that he OPENS.");
        CHECK.due(CHECK.asked("n1;b5 5 7 8 0;"), "boy(0, 8)", 1);
        CHECK.due(CHECK.asked("n8;b5 5 7 8 7;"), "boy(0, 8)", 128);
        CHECK.due(CHECK.asked(ROW + "b5 5 7 8 0;"), "boy(0, 8)", 255);
        CHECK.due(CHECK.asked(ROW + "b5 5 7 8 7;"), "boy(0, 8)", 255);
        CHECK.due(CHECK.asked(ROW + "b5 5 7 8 3;"), "boy(0, 8)", 255);
        CHECK.due(CHECK.asked(ROW + "b6 6 7 8 3;"), "boy(0, 8)", 8);
        CHECK.due(CHECK.asked(ROW + "b6 6 7 8 3;").does("props(3, 1)"), "boy(0, 8)", 24);
        CHECK.due(CHECK.asked("n8;d7 6 5;d6 5 5;d5 4 5;d4 3 5;d3 2 5;d2 1 5;d1 0 5;b5 5 7 8 7;"), "boy(0, 8)", 255);
        CHECK.due(CHECK.asked("n8;d0 1 5;d1 2 6;d2 3 5;b5 5 7 8 0;"), "boy(0, 8)", 3);
        CHECK.due(CHECK.asked("n8;d0 1 5;b5 5 7 8 0;").does("goes(0, 0)"), "boy(0, 8)", 3);
        CHECK.due(CHECK.asked("d0 1 5;b4 5 7 8 0;").does("colds(0, 1)"), "boy(0, 8)", 1);
        CHECK.due(CHECK.asked("d0 1 15;b15 15 7 8 0;").does("year()"), "boy(0, 8)", 1);
        CHECK.due(CHECK.asked("d0 1 3;b15 15 7 8 0;").does("year()"), "boy(0, 8)", 3);
    }

    private static void way() {
        CHECK.sentence("WAY of his to a PLACE: the fewest DOORS; NONE.");
        Asked row = CHECK.asked(ROW + "d0 6 6;b5 5 7 8 0;b5 6 7 8 7;b9 9 7 8 4;");
        for (int place = 0; place < 8; place++) {
            CHECK.due(row, Calls.written("way", 0, place), place);
            CHECK.due(row, Calls.written("way", 1, place), place <= 2 ? 2 + place : 7 - place);
            CHECK.due(row, Calls.written("way", 2, place), place == 4 ? 0 : NONE);
        }
        for (int far : FAR) {
            CHECK.due(row, Calls.written("way", 0, far), BAD);
            CHECK.due(row, Calls.written("way", far, 0), BAD);
        }
        CHECK.due(CHECK.asked("d0 1 5;b4 5 7 8 0;").does("colds(0, 1)"), "way(0, 1)", NONE);
        CHECK.due(CHECK.asked("d0 1 15;b15 15 7 8 0;").does("year()"), "way(0, 1)", NONE);
        CHECK.due(CHECK.asked("d0 1 3;b15 15 7 8 0;").does("year()"), "way(0, 1)", 1);
        CHECK.sentence("WAY; NONE. BAD.");
        CHECK.due(row, "way(0, 7)", 7);
        CHECK.due(row, "way(0, 8)", BAD);
        CHECK.due(row, "way(0, -1)", BAD);
        CHECK.due(row, "way(2, 7)", NONE);
        CHECK.due(row, "way(3, 0)", BAD);
        CHECK.due(row, "way(-1, 0)", BAD);
        Asked one = CHECK.asked("n1;b5 5 7 8 0;");
        CHECK.due(one, "way(0, 0)", 0);
        CHECK.due(one, "way(0, 1)", BAD);
        CHECK.due(new Asked(), "way(0, 0)", BAD);
    }

    private static void shutAtOnce() {
        CHECK.sentence("SHUT out of HOME: in how many YEARS (0 .. 20");
        CHECK.due(CHECK.asked("d0 1 40;b40 40 7 8 0;").does("goes(0, 0)"), "boy(0, 9)", 1);
        CHECK.due(CHECK.asked("d0 1 40;b40 40 7 8 0;").does("goes(0, 0)", "year()"), "boy(0, 9)", 0);
        CHECK.due(CHECK.asked("d0 1 40;b40 40 7 8 0;").does("goes(0, 0)", "colds(0, 1)"), "boy(0, 9)", 0);
        CHECK.due(CHECK.asked("d0 1 40;b39 40 7 8 0;").does("goes(0, 0)", "colds(0, 1)"), "boy(0, 9)", 0);
        CHECK.due(CHECK.asked("d0 1 39;b39 40 7 8 0;").does("goes(0, 0)", "colds(0, 1)"), "boy(0, 9)", 1);
    }

    private static void shutInYears() {
        CHECK.sentence("he can't come HOME first");
        for (int age = 7; age <= 20; age++) {
            for (int breaks = 7; breaks <= 20; breaks++) {
                Asked keys = CHECK.asked("d0 1 30;b30 31 " + age + " " + breaks + " 0;").does("props(0, 1)", "goes(0, 0)");
                CHECK.due(keys, "boy(0, 9)", NONE);
                keys.does("props(0, 0)");
                CHECK.due(age + " of " + breaks + ", SHUT", keys.answers("boy(0, 9)"), Math.max(breaks - age, 0));
                keys.does("colds(0, 2)");
                CHECK.due(age + " of " + breaks + ", SHUT by a cold", keys.answers("boy(0, 9)"), 0);
                keys.does("year()");
                CHECK.due(age + " of " + breaks + " and a year, SHUT", keys.answers("boy(0, 9)"), Math.max(breaks - age - 1, 0));
                CHECK.due(keys, "now(0)", 1);
            }
        }
    }

    private static void shutNever() {
        CHECK.sentence("he can't come HOME first; NONE.");
        CHECK.due(CHECK.asked("b0 0 7 8 0;"), "boy(0, 9)", NONE);
        CHECK.due(CHECK.asked("d0 1 40;b0 0 7 8 0;"), "boy(0, 9)", NONE);
        CHECK.due(CHECK.asked("d0 1 20;b20 32 7 20 0;").does("goes(0, 0)"), "boy(0, 9)", NONE);
        CHECK.due(CHECK.asked("d0 1 20;b20 31 7 20 0;").does("goes(0, 0)"), "boy(0, 9)", 13);
        CHECK.due(CHECK.asked("d0 1 20;b21 32 7 20 0;").does("props(0, 1)", "goes(0, 0)", "props(0, 0)"), "boy(0, 9)", 0);
        CHECK.due(CHECK.asked("d0 1 0;b0 40 7 20 0;").does("goes(0, 0)"), "boy(0, 9)", NONE);
        CHECK.due(CHECK.asked("d0 1 0;b0 11 7 20 0;").does("goes(0, 0)"), "boy(0, 9)", 13);
        CHECK.due(CHECK.asked("d0 1 20;b20 20 7 8 0;").does("goes(0, 0)", "props(0, 1)"), "boy(0, 9)", NONE);
    }

    private static void shutPastTheLastYear() {
        CHECK.sentence("only years go by, past YEAR 99, too");
        Asked keys = CHECK.asked("d0 1 20;d0 1 40;b32 34 7 8 0;b20 22 7 20 0;b20 34 7 20 0;");
        keys.does("props(1, 1)", "goes(0, 1)", "goes(1, 1)", "goes(2, 1)", "props(1, 0)").does(99, "year()");
        CHECK.due(keys, "now(0)", 99);
        CHECK.due(keys, "boy(0, 9)", NONE);
        CHECK.due(keys, "boy(1, 9)", 0);
        CHECK.due(keys, "boy(2, 9)", NONE);
        keys.does("colds(2, 3)");
        CHECK.due(keys, "boy(2, 9)", 0);
        CHECK.due(keys, "boy(2, 2)", 106);
        CHECK.due(keys, "boy(2, 6)", 3);
        CHECK.due(keys, "year()", -2);
    }

    private static void shutStaysWhereHeIs() {
        CHECK.sentence("he stays where he is");
        Asked keys = CHECK.asked("n4;d0 1 30;d1 2 30;d2 3 18;b30 30 7 10 0;");
        keys.does("goes(0, 0)", "goes(0, 1)");
        CHECK.due(keys, "boy(0, 9)", 3);
        CHECK.due(keys, "boy(0, 5)", 2);
        keys.does("props(0, 1)");
        CHECK.due(keys, "boy(0, 9)", 3);
        keys.does("props(1, 1)");
        CHECK.due(keys, "boy(0, 9)", NONE);
        keys.does("goes(0, 1)", "goes(0, 0)", "props(0, 0)", "props(1, 0)");
        CHECK.due(keys, "boy(0, 9)", NONE);
        CHECK.due(CHECK.asked("d0 1 35;b35 35 7 10 0;").does("goes(0, 0)"), "boy(0, 9)", 3);
    }

    private static void keysOfABoy() {
        CHECK.sentence("KEYS: DOORS (bits) that a BOY OPENS.");
        String doors = "d0 1 0;d0 1 5;d0 1 10;d0 1 15;d0 1 20;d0 1 25;d0 1 30;d0 1 40;";
        CHECK.due(CHECK.asked("b0 40 7 8 0;"), "boy(0, 7)", 0);
        CHECK.due(CHECK.asked(doors + "b0 40 7 8 0;"), "boy(0, 7)", 255);
        CHECK.due(CHECK.asked(doors + "b0 39 7 8 0;"), "boy(0, 7)", 127);
        CHECK.due(CHECK.asked(doors + "b1 40 7 8 0;"), "boy(0, 7)", 254);
        CHECK.due(CHECK.asked(doors + "b1 4 7 8 0;"), "boy(0, 7)", 0);
        CHECK.due(CHECK.asked(doors + "b1 4 7 8 0;").does("props(7, 1)"), "boy(0, 7)", 128);
    }

    private static void all() {
        CHECK.sentence("ALL: the fewest BOYS (bits, of several sets the least) of whom each DOOR is OPENED by one; NONE.");
        CHECK.due(new Asked(), "now(3)", 0);
        CHECK.due(CHECK.asked("b5 5 7 8 0;".repeat(5)), "now(3)", 0);
        CHECK.due(CHECK.asked("d0 1 5;"), "now(3)", NONE);
        CHECK.due(CHECK.asked("d0 1 5;").does("props(0, 1)"), "now(3)", NONE);
        CHECK.due(CHECK.asked("d0 1 5;b6 6 7 8 0;"), "now(3)", NONE);
        CHECK.due(CHECK.asked("d0 1 5;b6 6 7 8 0;").does("props(0, 1)"), "now(3)", 1);
        CHECK.due(CHECK.asked("d0 1 5;".repeat(7) + "d0 1 6;b5 5 7 8 0;"), "now(3)", NONE);
        CHECK.due(CHECK.asked("d0 1 5;".repeat(7) + "d0 1 6;b5 6 7 8 0;"), "now(3)", 1);
        StringBuilder five = new StringBuilder();
        for (int b = 0; b < 5; b++) {
            five.append("d0 1 ").append(b).append(";b").append(b).append(' ').append(b).append(" 7 8 0;");
        }
        CHECK.due(CHECK.asked(five.toString()), "now(3)", 31);
        CHECK.due(CHECK.asked(five + "d0 1 5;"), "now(3)", NONE);
        CHECK.due(CHECK.asked(five + "d0 1 5;").does("props(5, 1)"), "now(3)", 31);
        CHECK.due(CHECK.asked(five.toString()).does("colds(4, 1)"), "now(3)", NONE);
        CHECK.due(CHECK.asked("b5 5 7 8 0;b5 5 7 8 0;b5 5 7 8 0;b5 5 7 8 0;d0 1 6;b6 6 7 8 0;"), "now(3)", 16);
    }

    private static void allOfSeveral() {
        CHECK.sentence("of several sets the least");
        CHECK.due(CHECK.asked("d0 1 5;" + "b5 5 7 8 0;".repeat(5)), "now(3)", 1);
        CHECK.due(CHECK.asked("d0 1 5;b6 6 7 8 0;b5 5 7 8 0;b5 5 7 8 0;"), "now(3)", 2);
        CHECK.due(CHECK.asked("d0 1 5;d0 1 7;b5 5 7 8 0;b5 5 7 8 0;b7 7 7 8 0;b7 7 7 8 0;"), "now(3)", 5);
        CHECK.due(CHECK.asked("d0 1 5;d0 1 7;b5 5 7 8 0;b7 7 7 8 0;b5 7 7 8 0;"), "now(3)", 4);
        CHECK.due(CHECK.asked("d0 1 5;d0 1 7;d0 1 9;b5 5 7 8 0;b7 7 7 8 0;b9 9 7 8 0;b5 7 7 8 0;b7 9 7 8 0;"), "now(3)", 12);
        CHECK.due(CHECK.asked("d0 1 5;d0 1 7;d0 1 9;b7 7 7 8 0;b9 9 7 8 0;b5 5 7 8 0;b5 7 7 8 0;b7 9 7 8 0;"), "now(3)", 10);
    }

    private static void posts() {
        CHECK.sentence("POSTS: of all ways in which BOYS stand at DOORS, one at most at each DOOR, each at one that he OPENS, or at none");
        postsAre("", 0);
        postsAre("d0 1 5;", 0);
        postsAre("b5 5 7 8 0;", 0, NONE);
        postsAre("d0 1 5;b6 6 7 8 0;", 0, NONE);
        postsAre("d0 1 5;b5 5 7 8 0;", 1, 0);
        postsAre("d0 1 5;b5 5 7 8 0;b5 5 7 8 0;", 1, 0, NONE);
        postsAre("d0 1 5;d0 1 5;b5 5 7 8 0;", 1, 0);
        postsAre("d0 1 5;d0 1 6;b6 6 7 8 0;b6 6 7 8 0;", 1, 1, NONE);
        postsAre("d0 1 5;b6 6 7 8 0;b5 5 7 8 0;", 1, NONE, 0);
    }

    /** How many, and where each boy stands. */
    private static void postsAre(String text, int most, int... each) {
        Asked keys = CHECK.asked(text);
        CHECK.due(text + " posts(-1)", keys.answers("posts(-1)"), most);
        for (int b = 0; b < each.length; b++) {
            String call = Calls.written("posts", b);
            CHECK.due(text + " " + call, keys.answers(call), each[b]);
            CHECK.due(text + " " + call + " first of all", CHECK.asked(text).answers(call), each[b]);
        }
        CHECK.due(text + " posts(" + each.length + ")", keys.answers(Calls.written("posts", each.length)), BAD);
    }

    private static void postsOfSeveral() {
        CHECK.sentence("that in which most DOORS have one, of several the first (BOY by BOY, the lowest DOOR, none last)");
        postsAre("d0 1 5;d0 1 6;d0 1 7;b5 7 7 8 0;b5 7 7 8 0;", 2, 0, 1);
        postsAre("d0 1 5;d0 1 6;d0 1 7;b6 7 7 8 0;b5 7 7 8 0;", 2, 1, 0);
        postsAre("d0 1 5;d0 1 6;b5 6 7 8 0;b5 5 7 8 0;", 2, 1, 0);
        postsAre("d0 1 5;d0 1 6;d0 1 7;b5 7 7 8 0;b5 6 7 8 0;b5 5 7 8 0;", 3, 2, 1, 0);
        postsAre("d0 1 5;d0 1 6;b5 6 7 8 0;b5 6 7 8 0;b5 6 7 8 0;", 2, 0, 1, NONE);
        postsAre("d0 1 5;d0 1 6;b5 5 7 8 0;b5 5 7 8 0;b5 6 7 8 0;", 2, 0, NONE, 1);
        postsAre("d0 1 5;d0 1 6;b9 9 7 8 0;b5 6 7 8 0;b5 5 7 8 0;", 2, NONE, 1, 0);
        postsAre("d0 1 5;d0 1 6;d0 1 9;b5 6 7 8 0;b5 6 7 8 0;b5 6 7 8 0;b6 9 7 8 0;", 3, 0, 1, NONE, 2);
        postsAre("d0 1 6;d0 1 5;d0 1 6;b5 6 7 8 0;b5 5 7 8 0;b6 6 7 8 0;", 3, 0, 1, 2);
    }

    private static void postsAtTheBrim() {
        CHECK.sentence("in which most DOORS have one");
        postsAre("d0 1 5;".repeat(8) + "b5 5 7 8 0;".repeat(5), 5, 0, 1, 2, 3, 4);
        postsAre("d0 1 4;".repeat(3) + "d0 1 5;".repeat(5) + "b5 5 7 8 0;".repeat(5), 5, 3, 4, 5, 6, 7);
        postsAre("d0 1 4;".repeat(7) + "d0 1 5;" + "b5 5 7 8 0;".repeat(5), 1, 7, NONE, NONE, NONE, NONE);
        postsAre("d0 1 5;d0 1 6;d0 1 7;d0 1 8;d0 1 9;b5 9 7 8 0;b5 8 7 8 0;b5 7 7 8 0;b5 6 7 8 0;b5 5 7 8 0;",
            5, 4, 3, 2, 1, 0);
        postsAre("d0 1 5;d0 1 6;d0 1 7;d0 1 8;b5 8 7 8 0;b5 7 7 8 0;b5 6 7 8 0;b5 5 7 8 0;b5 8 7 8 0;",
            4, 0, 2, 1, NONE, 3);
        postsAre("d0 1 5;".repeat(8) + "b6 6 7 8 0;".repeat(5), 0, NONE, NONE, NONE, NONE, NONE);
    }

    private static void postsOfWhom() {
        CHECK.sentence("POSTS: how many (b = -1), at which DOOR a BOY stands; NONE. BAD.");
        Asked keys = CHECK.asked("d0 1 5;b6 6 7 8 0;b5 5 7 8 0;");
        CHECK.due(keys, "posts(-2)", BAD);
        CHECK.due(keys, "posts(-1)", 1);
        CHECK.due(keys, "posts(0)", NONE);
        CHECK.due(keys, "posts(1)", 0);
        CHECK.due(keys, "posts(2)", BAD);
        CHECK.due(keys, "posts(5)", BAD);
        for (int far : FAR) {
            CHECK.due(keys, Calls.written("posts", far), BAD);
        }
        CHECK.due(new Asked(), "posts(-1)", 0);
        CHECK.due(new Asked(), "posts(0)", BAD);
        CHECK.due(CHECK.asked("b5 5 7 8 0;".repeat(5)), "posts(4)", NONE);
        CHECK.due(CHECK.asked("b5 5 7 8 0;".repeat(5)), "posts(5)", BAD);
    }

    private static void tune() {
        CHECK.sentence("TUNE of a set of BOYS: the lowest PITCH (0 .. 40) that just these SING; NONE.");
        for (int low = 0; low <= 40; low++) {
            for (int high = low; high <= 40; high += high + 5 < 40 && high > low ? 5 : 1) {
                Asked keys = CHECK.asked("b" + low + " " + high + " 7 8 0;");
                CHECK.due("of " + low + " to " + high + ", tune(1)", keys.answers("tune(1)"), low);
                int free = low > 0 ? 0 : high < 40 ? high + 1 : NONE;
                CHECK.due("of " + low + " to " + high + ", tune(0)", keys.answers("tune(0)"), free);
            }
        }
        CHECK.due(CHECK.asked("b0 11 8 8 0;"), "tune(1)", NONE);
        CHECK.due(CHECK.asked("b0 12 8 8 0;"), "tune(1)", 0);
        CHECK.due(CHECK.asked("b0 12 8 8 0;"), "tune(0)", 1);
        CHECK.due(CHECK.asked("b5 5 7 8 0;").does("colds(0, 1)"), "tune(1)", NONE);
        CHECK.due(CHECK.asked("b0 39 7 8 0;"), "tune(0)", 40);
        CHECK.due(CHECK.asked("b40 40 7 8 0;"), "tune(1)", 40);
        CHECK.due(CHECK.asked("d0 1 40;b5 5 7 8 0;").does("props(0, 1)"), "tune(1)", 5);
    }

    private static void tuneOfSets() {
        CHECK.sentence("TUNE; NONE. BAD (others than BOYS in the set).");
        CHECK.due(new Asked(), "tune(0)", 0);
        CHECK.due(new Asked(), "tune(1)", BAD);
        for (int boys = 0; boys <= 5; boys++) {
            Asked keys = CHECK.asked("b40 40 7 8 0;".repeat(boys));
            int set = (1 << boys) - 1;
            CHECK.due(keys, Calls.written("tune", set), boys == 0 ? 0 : 40);
            CHECK.due(keys, Calls.written("tune", set + 1), BAD);
            CHECK.due(keys, Calls.written("tune", 2 * set + 2), BAD);
            CHECK.due(keys, Calls.written("tune", 1 << boys | 1), BAD);
            CHECK.due(keys, "tune(-1)", BAD);
            CHECK.due(keys, "tune(32)", BAD);
            for (int far : FAR) {
                CHECK.due(keys, Calls.written("tune", far), BAD);
            }
            for (int part = 1; part < set; part++) {
                CHECK.due(keys, Calls.written("tune", part), NONE);
            }
        }
        Asked apart = CHECK.asked("b0 0 7 8 0;b0 4 7 8 0;b2 6 7 8 0;b4 8 7 8 0;b0 8 7 8 0;");
        int[] sets = {19, 18, 22, 30, 28, 24, 0, 31, 1, 16};
        int[] due = {0, 1, 2, 4, 5, 7, 9, NONE, NONE, NONE};
        for (int i = 0; i < sets.length; i++) {
            CHECK.due(apart, Calls.written("tune", sets[i]), due[i]);
        }
    }

    private static void thirds() {
        CHECK.sentence("with PITCHES 4 apart.");
        for (int first = 0; first <= 40; first += first == 4 ? 32 : 4) {
            for (int second = 0; second <= 40; second++) {
                Asked keys = CHECK.asked("d0 1 " + first + ";d0 1 " + second + ";b0 40 7 8 0;b0 40 7 8 1;");
                int due = Math.abs(first - second) == 4 ? 2 : 0;
                CHECK.due(first + " and " + second + ", thirds(0, 1)", keys.answers("thirds(0, 1)"), due);
                CHECK.due(first + " and " + second + ", thirds(1, 0)", keys.answers("thirds(1, 0)"), due);
            }
        }
        CHECK.due(CHECK.asked("d0 1 5;b0 40 7 8 0;b0 40 7 8 1;"), "thirds(0, 1)", 0);
        CHECK.due(CHECK.asked("b0 40 7 8 0;b0 40 7 8 1;"), "thirds(0, 1)", 0);
        CHECK.due(CHECK.asked("d0 1 5;".repeat(4) + "d0 1 9;".repeat(4) + "b0 40 7 8 0;b0 40 7 8 1;"), "thirds(0, 1)", 32);
        CHECK.due(CHECK.asked("d0 1 5;".repeat(4) + "d0 1 9;".repeat(4) + "b5 5 7 8 0;b9 9 7 8 1;"), "thirds(0, 1)", 16);
    }

    private static void thirdsOfTwo() {
        CHECK.sentence("THIRDS of two unlike BOYS: how many rows of two DOORS (not the same, no matter whether PROPPED)");
        Asked keys = CHECK.asked("d0 1 20;d0 1 24;d0 1 28;b20 24 7 8 0;b24 27 7 8 0;b24 28 7 8 0;b0 0 7 8 0;");
        int[][] due = {{BAD, 1, 2, 0}, {1, BAD, 1, 0}, {2, 1, BAD, 0}, {0, 0, 0, BAD}};
        for (int a = 0; a < 4; a++) {
            for (int b = 0; b < 4; b++) {
                CHECK.due(keys, Calls.written("thirds", a, b), due[a][b]);
            }
            CHECK.due(keys, Calls.written("thirds", a, 4), BAD);
            CHECK.due(keys, Calls.written("thirds", 4, a), BAD);
            CHECK.due(keys, Calls.written("thirds", a, -1), BAD);
            CHECK.due(keys, Calls.written("thirds", -1, a), BAD);
        }
        keys.does("props(0, 1)", "props(1, 1)", "props(2, 1)");
        CHECK.due(keys, "thirds(0, 1)", 1);
        CHECK.due(keys, "thirds(0, 3)", 0);
        keys.does("colds(0, 1)");
        CHECK.due(keys, "thirds(0, 1)", 1);
        CHECK.due(keys, "thirds(0, 2)", 1);
        CHECK.sentence("THIRDS. BAD.");
        CHECK.due(keys, "thirds(3, 3)", BAD);
        CHECK.due(keys, "thirds(3, 0)", 0);
        CHECK.due(keys, "thirds(3, 4)", BAD);
        for (int far : FAR) {
            CHECK.due(keys, Calls.written("thirds", 0, far), BAD);
            CHECK.due(keys, Calls.written("thirds", far, 0), BAD);
            CHECK.due(keys, Calls.written("thirds", far, far), BAD);
        }
        CHECK.due(CHECK.asked("b0 0 7 8 0;"), "thirds(0, 0)", BAD);
        CHECK.due(CHECK.asked("b0 0 7 8 0;"), "thirds(0, 1)", BAD);
        CHECK.due(CHECK.asked("b0 0 7 8 0;".repeat(5)), "thirds(4, 3)", 0);
    }

    private static void heard() {
        CHECK.sentence("HEARD: how much there is. BAD; FULL.");
        Asked keys = CHECK.asked("d0 1 5;".repeat(8) + "b5 5 7 8 0;");
        for (int i = 1; i <= 6; i++) {
            CHECK.due(keys, Calls.written("hears", i + 1, i % 2), i);
            CHECK.due(keys, "count(4)", i);
        }
        CHECK.due(keys, "hears(0, 0)", FULL);
        CHECK.due(keys, "hears(7, 1)", FULL);
        CHECK.due(keys, "hears(8, 1)", BAD);
        CHECK.due(keys, "hears(-1, 0)", BAD);
        CHECK.due(keys, "hears(0, 2)", BAD);
        CHECK.due(keys, "hears(0, -1)", BAD);
        CHECK.due(keys, "count(4)", 6);
        CHECK.due(keys, "forget()", 6);
        for (int far : FAR) {
            CHECK.due(keys, Calls.written("hears", far, 0), BAD);
            CHECK.due(keys, Calls.written("hears", 0, far), BAD);
        }
        CHECK.due(keys, "hears(8, 0)", BAD);
        CHECK.due(keys, "hears(0, 2)", BAD);
        CHECK.due(keys, "hears(7, 1)", 1);
        CHECK.due(new Asked(), "hears(0, 0)", BAD);
        CHECK.due(CHECK.asked("d0 1 5;"), "hears(0, 0)", 1);
        CHECK.due(CHECK.asked("d0 1 5;"), "hears(1, 0)", BAD);
    }

    private static void heardAsHeIsNow() {
        CHECK.sentence("HEARD (6 at most): an unknown BOY, just as he is NOW (when that is asked), OPENS a DOOR (1), or does not (0).");
        Asked keys = CHECK.asked("d0 1 20;b20 24 7 8 0;b8 10 7 8 0;b30 36 7 8 1;").does("hears(0, 1)");
        CHECK.due(keys, "who()", 1);
        keys.does("year()");
        CHECK.due(keys, "who()", 4);
        keys.does("colds(2, 9)");
        CHECK.due(keys, "who()", 0);
        keys.does("props(0, 1)");
        CHECK.due(keys, "who()", 7);
        CHECK.due(keys, "ask()", 0);
        keys.does("undo()", "undo()", "undo()");
        CHECK.due(keys, "who()", 1);
        keys.does("michaelmas()", "michaelmas()");
        CHECK.due(keys, "who()", 4);
        keys.does("goes(2, 0)");
        CHECK.due(keys, "who()", 4);
        CHECK.due(keys, "count(4)", 1);
    }

    private static void who() {
        CHECK.sentence("WHO: BOYS (bits) by whom all that was HEARD is so.");
        CHECK.due(new Asked(), "who()", 0);
        CHECK.due(CHECK.asked("d0 1 5;"), "who()", 0);
        CHECK.due(CHECK.asked("d0 1 5;").does("hears(0, 0)"), "who()", 0);
        for (int boys = 0; boys <= 5; boys++) {
            CHECK.due(CHECK.asked("b5 5 7 8 0;".repeat(boys)), "who()", (1 << boys) - 1);
        }
        Asked keys = CHECK.asked("d0 1 1;d0 1 2;d0 1 3;d0 1 4;d0 1 5;d0 1 6;"
            + "b1 5 7 8 0;b1 4 7 8 0;b1 3 7 8 0;b2 5 7 8 0;b1 6 7 8 0;");
        String[] calls = {"hears(0, 1)", "hears(1, 1)", "hears(2, 1)", "hears(3, 1)", "hears(4, 1)", "hears(5, 0)"};
        int[] due = {23, 23, 23, 19, 17, 1};
        for (int i = 0; i < calls.length; i++) {
            keys.does(calls[i]);
            CHECK.due("behind " + calls[i] + ", who()", keys.answers("who()"), due[i]);
        }
        CHECK.due(keys, "hears(0, 0)", FULL);
        CHECK.due(keys, "who()", 1);
        Asked both = CHECK.asked("d0 1 5;b5 5 7 8 0;b6 6 7 8 0;").does("hears(0, 1)", "hears(0, 1)");
        CHECK.due(both, "who()", 1);
        CHECK.due(both.does("hears(0, 0)"), "who()", 0);
    }

    private static void ask() {
        CHECK.sentence("ASK: the DOOR by which, OPENED or not, the greater part of these is smallest, of several the lowest");
        String boys = "b1 1 7 8 0;b1 2 7 8 0;b1 3 7 8 0;b1 4 7 8 0;b1 5 7 8 0;";
        CHECK.due(CHECK.asked("d0 1 1;d0 1 5;d0 1 4;d0 1 3;d0 1 2;" + boys), "ask()", 2);
        CHECK.due(CHECK.asked("d0 1 1;d0 1 5;d0 1 3;d0 1 4;d0 1 2;" + boys), "ask()", 2);
        CHECK.due(CHECK.asked("d0 1 1;d0 1 5;d0 1 2;" + boys), "ask()", 1);
        CHECK.due(CHECK.asked("d0 1 1;d0 1 2;d0 1 5;" + boys), "ask()", 1);
        CHECK.due(CHECK.asked("d0 1 9;d0 1 1;" + boys), "ask()", 0);
        CHECK.due(CHECK.asked("d0 1 9;".repeat(7) + "d0 1 5;" + boys), "ask()", 7);
        CHECK.due(CHECK.asked("d0 1 9;".repeat(8) + boys), "ask()", 0);
        CHECK.due(CHECK.asked("d0 1 1;".repeat(8) + boys), "ask()", 0);
    }

    private static void askNone() {
        CHECK.sentence("NONE (one can be at most, there are no DOORS).");
        CHECK.due(new Asked(), "ask()", NONE);
        CHECK.due(CHECK.asked("d0 1 5;"), "ask()", NONE);
        CHECK.due(CHECK.asked("d0 1 5;b5 5 7 8 0;"), "ask()", NONE);
        CHECK.due(CHECK.asked("d0 1 5;b5 5 7 8 0;b5 5 7 8 0;"), "ask()", 0);
        CHECK.due(CHECK.asked("b5 5 7 8 0;".repeat(5)), "ask()", NONE);
        CHECK.due(CHECK.asked("b5 5 7 8 0;b5 5 7 8 0;"), "ask()", NONE);
        CHECK.sentence("ASK; NONE.");
        Asked keys = CHECK.asked("d0 1 5;d0 1 6;b5 6 7 8 0;b5 5 7 8 0;b6 6 7 8 0;").does("hears(0, 1)");
        CHECK.due(keys, "who()", 3);
        CHECK.due(keys, "ask()", 1);
        keys.does("hears(1, 0)");
        CHECK.due(keys, "who()", 2);
        CHECK.due(keys, "ask()", NONE);
        keys.does("hears(0, 0)");
        CHECK.due(keys, "who()", 0);
        CHECK.due(keys, "ask()", NONE);
    }

    private static void askOfSeveral() {
        CHECK.sentence("the greater part of these is smallest");
        Asked keys = CHECK.asked("d0 1 1;d0 1 2;d0 1 3;d0 1 4;b1 2 7 8 0;b2 3 7 8 0;b3 4 7 8 0;b4 4 7 8 0;b2 4 7 8 0;");
        CHECK.due(keys, "ask()", 1);
        keys.does("hears(1, 1)");
        CHECK.due(keys, "who()", 19);
        CHECK.due(keys, "ask()", 0);
        keys.does("hears(0, 0)");
        CHECK.due(keys, "who()", 18);
        CHECK.due(keys, "ask()", 3);
        keys.does("props(3, 1)");
        CHECK.due(keys, "ask()", 0);
    }

    private static void fraction(Asked keys, int x, int k, int upper, int lower) {
        CHECK.due(keys, Calls.written("odds", x, k, 0), upper);
        CHECK.due(keys, Calls.written("odds", x, k, 1), lower);
    }

    private static void odds() {
        CHECK.sentence("ODDS: upper (what = 0), lower number (1), in least terms. BAD.");
        Asked five = CHECK.asked("b5 5 7 8 0;".repeat(5));
        int[][] due = {{1, 0, 59049, 100000}, {1, 1, 45927, 50000}, {1, 2, 12393, 12500}, {1, 3, 49977, 50000},
            {1, 4, 99999, 100000}, {1, 5, 1, 1}, {9, 0, 1, 100000}, {9, 1, 23, 50000}, {9, 4, 40951, 100000},
            {5, 0, 1, 32}, {5, 1, 3, 16}, {5, 2, 1, 2}, {5, 3, 13, 16}, {5, 4, 31, 32}, {5, 5, 1, 1}, {2, 0, 1024, 3125}};
        for (int[] row : due) {
            fraction(five, row[0], row[1], row[2], row[3]);
        }
        CHECK.due(five, "odds(5, 0, -1)", BAD);
        CHECK.due(five, "odds(5, 0, 2)", BAD);
        for (int far : FAR) {
            CHECK.due(five, Calls.written("odds", far, 0, 0), BAD);
            CHECK.due(five, Calls.written("odds", 0, far, 0), BAD);
            CHECK.due(five, Calls.written("odds", 0, 0, far), BAD);
        }
    }

    private static void oddsNumbers() {
        CHECK.sentence("ODDS by x (0 .. 10), k (0 .. 5)");
        for (int boys = 0; boys <= 5; boys++) {
            Asked keys = CHECK.asked("b5 5 7 8 0;".repeat(boys));
            for (int k = 0; k <= 5; k++) {
                fraction(keys, 0, k, 1, 1);
                fraction(keys, 10, k, k >= boys ? 1 : 0, 1);
                CHECK.due(keys, Calls.written("odds", -1, k, 0), BAD);
                CHECK.due(keys, Calls.written("odds", 11, k, 0), BAD);
            }
            for (int x = 0; x <= 10; x++) {
                fraction(keys, x, 5, 1, 1);
                CHECK.due(keys, Calls.written("odds", x, -1, 0), BAD);
                CHECK.due(keys, Calls.written("odds", x, 6, 0), BAD);
                CHECK.due(keys, Calls.written("odds", x, 6, 1), BAD);
            }
        }
    }

    private static void oddsOfWhom() {
        CHECK.sentence("each BOY whose voice is not broken takes a cold by x of 10, for himself: that k at most do: a fraction.");
        fraction(new Asked(), 10, 0, 1, 1);
        fraction(new Asked(), 3, 0, 1, 1);
        fraction(CHECK.asked("b5 5 8 8 0;".repeat(5)), 10, 0, 1, 1);
        Asked keys = CHECK.asked("b5 5 7 8 0;b5 5 7 9 0;b5 5 7 10 0;b5 5 7 11 0;b5 5 7 12 0;");
        int[][] due = {{16807, 100000}, {2401, 10000}, {343, 1000}, {49, 100}, {7, 10}, {1, 1}, {1, 1}};
        for (int[] row : due) {
            fraction(keys, 3, 0, row[0], row[1]);
            keys.does("year()");
        }
        keys.does("undo()", "undo()", "undo()", "undo()", "undo()");
        fraction(keys, 3, 0, 343, 1000);
        fraction(keys, 3, 2, 973, 1000);
        keys.does("colds(2, 9)");
        fraction(keys, 3, 2, 973, 1000);
        fraction(CHECK.asked("b5 5 7 8 0;b5 5 8 8 0;b5 5 9 8 0;"), 4, 0, 3, 5);
    }

    private static void forget() {
        CHECK.sentence("Nothing is HEARD: how much was.");
        CHECK.due(new Asked(), "forget()", 0);
        for (int heard = 0; heard <= 7; heard++) {
            Asked keys = CHECK.asked("d0 1 5;b6 6 7 8 0;").does(heard, "hears(0, 1)");
            CHECK.due(keys, "who()", heard == 0 ? 1 : 0);
            CHECK.due(keys, "forget()", Math.min(heard, 6));
            CHECK.due(keys, "count(4)", 0);
            CHECK.due(keys, "who()", 1);
            CHECK.due(keys, "forget()", 0);
            CHECK.due(keys, "hears(0, 0)", 1);
            CHECK.due(keys, "who()", 1);
        }
    }
}
