import java.util.Arrays;

/** Part 1 of the document and promises 1 to 4, sentence by sentence: what a text may tell, and what not. */
final class TextBoundsTest {
    private static final Check CHECK = new Check("TextBoundsTest");
    private static final String TOLD = "n3;d0 2 7;b1 2 7 8 2;s9;";
    private static final String MOST_ITEMS =
        "n8;" + "d0 1 1;".repeat(8) + "b0 1 7 8 1;".repeat(5) + "s1;";

    public static void main(String[] args) {
        places();
        doors();
        unlikePlaces();
        pitches();
        boys();
        lowAndHigh();
        ages();
        homes();
        steps();
        textLength();
        onlyBlanksAreBlank();
        blanksAnywhere();
        blanksNeeded();
        items();
        eachEndedBySemicolon();
        placesFirstOfAll();
        doorsInTheirOrder();
        boysInTheirOrder();
        stepOnce();
        tokens();
        tokensThatCantStandThere();
        ninthDoorSixthBoy();
        placesThatThereAreNot();
        numbersAboveNinetyNine();
        zeroAheadOfOthers();
        endsTooEarly();
        theFirstFaultCounts();
        constants();
        newObject();
        type();
        clear();
        city();
        refusedCity();
        CHECK.end();
    }

    // ---- texts that are taken, texts that are not

    /** The text is taken by a new object, and by one to which another text was told. */
    private static Asked taken(String text, int items) {
        CHECK.due("city() of \"" + text + "\"", Check.read(text), items);
        Asked keys = CHECK.asked(TOLD).types(text);
        CHECK.due("city() of \"" + text + "\" behind another", keys.answers("city()"), items);
        CHECK.due(keys, "count(5)", 0);
        return keys;
    }

    /** The text has its fault there, on a new object and behind another text, which it leaves as it was. */
    private static void fault(String text, int place) {
        CHECK.due("city() of \"" + text + "\"", Check.read(text), -10 - place);
        Asked keys = CHECK.asked(TOLD).types(text);
        CHECK.due("city() of \"" + text + "\" behind another", keys.answers("city()"), -10 - place);
        CHECK.due("city() of \"" + text + "\" again", keys.answers("city()"), -10 - place);
        int[] counts = {3, 1, 1, 9, 0, text.length()};
        for (int what = 0; what < counts.length; what++) {
            CHECK.due(keys, Calls.written("count", what), counts[what]);
        }
        CHECK.due(keys, "door(0, 2)", 7);
        CHECK.due(keys, "boy(0, 4)", 2);
    }

    /** A number that is taken from least to most, and not beyond; it follows "ahead", and "behind" follows it. */
    private static void numberBounds(String ahead, int least, int most, String behind, String call) {
        for (int number = 0; number <= 101; number++) {
            String text = ahead + number + behind;
            if (number >= least && number <= most) {
                CHECK.due(call + " of \"" + text + "\"", taken(text, 1).answers(call), number);
            } else {
                fault(text, ahead.length());
            }
        }
    }

    private static void places() {
        CHECK.sentence("PLACES 0 .. as many as are told less 1 (1 .. 8; 2 at first)");
        numberBounds("n", 1, 8, ";", "count(0)");
        CHECK.due(new Asked(), "count(0)", 2);
        CHECK.due(taken("s1;", 1), "count(0)", 2);
        for (int places = 1; places <= 8; places++) {
            Asked keys = taken("n" + places + ";b0 1 7 8 " + (places - 1) + ";", 2);
            CHECK.due(keys, Calls.written("way", 0, places - 1), 0);
            CHECK.due(keys, Calls.written("way", 0, 0), places == 1 ? 0 : -9);
            CHECK.due(keys, Calls.written("way", 0, places), -1);
            CHECK.due(keys, "way(0, -1)", -1);
        }
        Asked two = taken("b0 1 7 8 1;", 1);
        CHECK.due(two, "way(0, 1)", 0);
        CHECK.due(two, "way(0, 2)", -1);
    }

    private static void doors() {
        CHECK.sentence("DOORS 0 .. (8 at most)");
        CHECK.due(new Asked(), "door(0, 2)", -1);
        for (int doors = 0; doors <= 8; doors++) {
            Asked keys = taken("d0 1 7;".repeat(doors), doors);
            CHECK.due(keys, "count(1)", doors);
            CHECK.due(keys, Calls.written("door", doors - 1, 2), doors == 0 ? -1 : 7);
            CHECK.due(keys, Calls.written("door", doors, 2), -1);
        }
        fault("d0 1 7;".repeat(9), 56);
    }

    private static void unlikePlaces() {
        CHECK.sentence("between two unlike PLACES");
        for (int a = 0; a < 8; a++) {
            for (int b = 0; b < 8; b++) {
                String text = "n8;d" + a + " " + b + " 7;";
                if (a == b) {
                    fault(text, 6);
                } else {
                    Asked keys = taken(text, 2);
                    CHECK.due(keys, "door(0, 0)", a);
                    CHECK.due(keys, "door(0, 1)", b);
                }
            }
        }
        fault("n1;d0 0 7;", 6);
    }

    private static void pitches() {
        CHECK.sentence("PITCH (0 .. 40)");
        numberBounds("d0 1 ", 0, 40, ";", "door(0, 2)");
    }

    private static void boys() {
        CHECK.sentence("BOYS 0 .. (5 at most)");
        CHECK.due(new Asked(), "boy(0, 2)", -1000000);
        for (int boys = 0; boys <= 5; boys++) {
            Asked keys = taken("b0 1 9 12 1;".repeat(boys), boys);
            CHECK.due(keys, "count(2)", boys);
            CHECK.due(keys, Calls.written("boy", boys - 1, 2), boys == 0 ? -1000000 : 9);
            CHECK.due(keys, Calls.written("boy", boys, 2), -1000000);
        }
        fault("b0 1 9 12 1;".repeat(6), 60);
    }

    private static void lowAndHigh() {
        CHECK.sentence("LOW, HIGH (0 .. 40, LOW no more than HIGH)");
        for (int low = 0; low <= 42; low++) {
            for (int high = 0; high <= 42; high++) {
                String ahead = "b" + low + " ";
                String text = ahead + high + " 7 8 0;";
                if (low > 40) {
                    fault(text, 1);
                } else if (high > 40 || high < low) {
                    fault(text, ahead.length());
                } else {
                    Asked keys = taken(text, 1);
                    CHECK.due(keys, "boy(0, 0)", low);
                    CHECK.due(keys, "boy(0, 1)", high);
                }
            }
        }
    }

    private static void ages() {
        CHECK.sentence("AGE (7 .. 20)");
        numberBounds("b0 1 ", 7, 20, " 20 0;", "boy(0, 2)");
        CHECK.sentence("BREAKS (7 .. 20: at this AGE)");
        numberBounds("b0 1 7 ", 7, 20, " 0;", "boy(0, 3)");
    }

    private static void homes() {
        CHECK.sentence("HOME (a PLACE)");
        numberBounds("b0 1 7 8 ", 0, 1, ";", "boy(0, 4)");
        for (int places = 1; places <= 8; places++) {
            String ahead = "n" + places + ";b0 1 7 8 ";
            CHECK.due(taken(ahead + (places - 1) + ";", 2), "boy(0, 4)", places - 1);
            CHECK.due(taken(ahead + "0;", 2), "boy(0, 4)", 0);
            fault(ahead + places + ";", ahead.length());
        }
    }

    private static void steps() {
        CHECK.sentence("STEP (0 .. 40; 5 at first)");
        numberBounds("s", 0, 40, ";", "count(3)");
        CHECK.due(new Asked(), "count(3)", 5);
        CHECK.due(taken("n2;", 1), "count(3)", 5);
        CHECK.due(taken("", 0), "count(3)", 5);
    }

    private static void textLength() {
        CHECK.sentence("a text (150 letters at most)");
        Asked keys = new Asked();
        for (int letters = 1; letters <= 150; letters++) {
            CHECK.due(keys, "type(32)", letters);
        }
        CHECK.due(keys, "type(32)", -3);
        CHECK.due(keys, "type(59)", -3);
        CHECK.due(keys, "count(5)", 150);
        CHECK.due(keys, "city()", 0);
        CHECK.due(keys, "type(110)", 1);
        String blanks = " ".repeat(150);
        taken(blanks.substring(0, 147) + "n8;", 1);
        taken("n8;" + blanks.substring(0, 147), 1);
        taken(blanks.substring(0, 146) + "n8;", 1);
        fault(blanks.substring(0, 149) + "x", 149);
        fault(blanks.substring(0, 149) + "s", 150);
        fault(blanks.substring(0, 148) + "s0", 150);
        fault("s" + blanks.substring(0, 149), 150);
        CHECK.due(new Asked().types(blanks + "x"), "city()", 0);
        CHECK.due(new Asked().types(blanks.substring(0, 147) + "n8;x"), "city()", 1);
    }

    private static void onlyBlanksAreBlank() {
        CHECK.sentence("blanks (32)");
        for (int letter = 0; letter <= 255; letter++) {
            char sign = (char) letter;
            if (letter == ' ') {
                taken(sign + "s" + sign + "4" + sign + ";" + sign, 1);
            } else if ("ndbs;0123456789".indexOf(letter) < 0) {
                fault(sign + "s4;", 0);
                fault("s" + sign + "4;", 1);
                fault("s4" + sign + ";", 2);
                fault("s4;" + sign, 3);
            }
        }
    }

    private static void blanksAnywhere() {
        CHECK.sentence("any number, ahead of, between, behind TOKENS");
        String[] tokens = {"n", "8", ";", "d", "0", "7", "40", ";", "b", "9", "40", "20", "12", "7", ";", "s", "6", ";"};
        for (int blanks = 1; blanks <= 6; blanks++) {
            String between = " ".repeat(blanks);
            told(taken(between + String.join(between, tokens) + between, 4));
        }
        told(taken("n8;d0 7 40;b9 40 20 12 7;s6;", 4));
        for (int at = 0; at <= tokens.length; at++) {
            StringBuilder text = new StringBuilder();
            for (int i = 0; i < tokens.length; i++) {
                text.append(i == at ? " ".repeat(100) : "").append(tokens[i]);
                text.append(i + 1 < tokens.length && isNumber(tokens[i]) && isNumber(tokens[i + 1]) ? " " : "");
            }
            told(taken(text.append(at == tokens.length ? " ".repeat(100) : "").toString(), 4));
        }
    }

    private static boolean isNumber(String token) {
        return Character.isDigit(token.charAt(0));
    }

    private static void told(Asked keys) {
        String[] calls = {"count(0)", "door(0, 0)", "door(0, 1)", "door(0, 2)", "boy(0, 0)", "boy(0, 1)", "boy(0, 2)",
            "boy(0, 3)", "boy(0, 4)", "count(3)"};
        int[] due = {8, 0, 7, 40, -3, 28, 20, 12, 7, 6};
        for (int i = 0; i < calls.length; i++) {
            CHECK.due(keys, calls[i], due[i]);
        }
    }

    private static void blanksNeeded() {
        CHECK.sentence("needed only between two NUMBERS");
        CHECK.due(taken("d0 1 23;", 1), "door(0, 2)", 23);
        CHECK.due(taken("d0 1 2;", 1), "door(0, 2)", 2);
        fault("d01 23;", 1);
        fault("d0 123;", 3);
        fault("d0 12;", 3);
        fault("d1023;", 1);
        fault("d1 02;", 3);
        fault("b1234 7 8 0;", 1);
        fault("b10 20 78 0;", 7);
        fault("s 1 2;", 4);
        fault("n 1 0;", 4);
    }

    private static void items() {
        CHECK.sentence("ITEMS (none, too)");
        taken("", 0);
        taken(" ", 0);
        taken(" ".repeat(150), 0);
        for (int items = 1; items <= 8; items++) {
            taken("d0 1 1;".repeat(items), items);
        }
        CHECK.due(taken(MOST_ITEMS, 15), "count(1)", 8);
        CHECK.due(taken("s1;" + MOST_ITEMS.substring(3, 114), 14), "count(2)", 5);
    }

    private static void eachEndedBySemicolon() {
        CHECK.sentence("each ended by ;");
        for (String item : new String[] {"n2", "d0 1 7", "b0 1 7 8 1", "s3"}) {
            taken(item + ";", 1);
            fault(item, item.length());
            fault(item + "d0 1 7;", item.length());
            fault(item + " s4;", item.length() + 1);
            fault(item + ";;", item.length() + 1);
            fault(item + " 1;", item.length() + 1);
            fault(item + ",", item.length());
            fault(item + ":", item.length());
        }
        fault(";", 0);
        fault(" ; ", 1);
    }

    private static void placesFirstOfAll() {
        CHECK.sentence("n N (PLACES; the first of all, if it is told)");
        CHECK.due(taken("n4;d3 0 1;", 2), "count(0)", 4);
        CHECK.due(taken("  n4;", 1), "count(0)", 4);
        CHECK.due(taken("d1 0 1;", 1), "count(0)", 2);
        fault("n4;n4;", 3);
        fault("d1 0 1;n4;", 7);
        fault("b0 1 7 8 0;n4;", 11);
        fault("s1; n4;", 4);
        fault("n4;s1;n4;", 6);
        fault("s1;n", 3);
    }

    private static void doorsInTheirOrder() {
        CHECK.sentence("d A B P (the next DOOR)");
        StringBuilder text = new StringBuilder("n8;");
        for (int d = 0; d < 8; d++) {
            text.append("d").append(d).append(' ').append((d + 3) % 8).append(' ').append(d * 5).append(';');
            text.append(d == 3 ? "s2;b0 1 7 8 0;" : "");
        }
        Asked keys = taken(text.toString(), 11);
        for (int d = 0; d < 8; d++) {
            CHECK.due(keys, Calls.written("door", d, 0), d);
            CHECK.due(keys, Calls.written("door", d, 1), (d + 3) % 8);
            CHECK.due(keys, Calls.written("door", d, 2), d * 5);
        }
    }

    private static void boysInTheirOrder() {
        CHECK.sentence("b L H A K X (the next BOY: LOW, HIGH, AGE, BREAKS, HOME)");
        StringBuilder text = new StringBuilder("n6;");
        for (int b = 0; b < 5; b++) {
            text.append("b").append(b * 10).append(' ').append(40 - b % 2).append(' ').append(7 + b).append(' ');
            text.append(20 - b).append(' ').append(5 - b).append(';').append(b == 1 ? "d0 1 3;" : "");
        }
        Asked keys = taken(text.toString(), 7);
        for (int b = 0; b < 5; b++) {
            int[] due = {b * 10, 40 - b % 2, 7 + b, 20 - b, 5 - b};
            for (int what = 0; what < due.length; what++) {
                CHECK.due(keys, Calls.written("boy", b, what), due[what]);
            }
        }
    }

    private static void stepOnce() {
        CHECK.sentence("s N (STEP; once at most)");
        CHECK.due(taken("s0;", 1), "count(3)", 0);
        CHECK.due(taken("n2;s3;d0 1 7;", 3), "count(3)", 3);
        CHECK.due(taken("d0 1 7;b0 1 7 8 1;s40;", 3), "count(3)", 40);
        fault("s3;s3;", 3);
        fault("s3;d0 1 7;s4;", 10);
        fault("s3;s", 3);
        fault("s5;s5", 3);
        CHECK.due(CHECK.asked("s3;").types("s4;"), "city()", 1);
        CHECK.due(new Asked().types("s3;x").does("city()", "clear()").types("s4;"), "city()", 1);
    }

    private static void tokens() {
        CHECK.sentence("TOKENS are the letters n, d, b, s, NUMBERS and ; .");
        for (int letter = 0; letter <= 255; letter++) {
            String sign = String.valueOf((char) letter);
            if (letter == ' ') {
                taken(sign, 0);
            } else {
                fault(sign, "ndbs".contains(sign) ? 1 : 0);
            }
            if (letter != ' ' && letter != ';') {
                fault("s7" + sign, Character.isDigit((char) letter) && letter < 128 ? 1 : 2);
            }
        }
    }

    private static void tokensThatCantStandThere() {
        CHECK.sentence("FAULT: the place of the first letter of the first TOKEN that can't stand there");
        String[][] items = {{"n", "2", ";"}, {"d", "0", "1", "7", ";"}, {"b", "0", "1", "7", "8", "1", ";"}, {"s", "7", ";"}};
        String[] others = {"n", "d", "b", "s", ";", "1", "x", "100", "07"};
        for (String[] item : items) {
            for (int at = 1; at < item.length; at++) {
                String ahead = String.join(" ", Arrays.copyOf(item, at)) + " ";
                for (String other : others) {
                    boolean same = item[at].equals(";") ? other.equals(";") : other.equals("1");
                    if (!same) {
                        fault(ahead + other, ahead.length());
                        fault("  " + ahead + other + " 1 ; n", ahead.length() + 2);
                    }
                }
            }
        }
        fault("1", 0);
        fault("n2;1", 3);
        fault("n2; 40;", 4);
    }

    private static void ninthDoorSixthBoy() {
        CHECK.sentence("n behind another ITEM, a ninth d, a sixth b, s again");
        String doors = "d0 1 1;".repeat(8);
        String boys = "b0 1 7 8 1;".repeat(5);
        taken(doors + boys, 13);
        fault(doors + "n", 56);
        fault(doors + "d", 56);
        fault(doors + "  d9 9 99;", 58);
        fault(doors + boys + "d0 1 1;", 111);
        fault(boys + "b", 55);
        fault(boys + " b0 1 7 8 1;", 56);
        fault(boys + doors + "b0 1 7 8 1;", 111);
        fault(doors + boys + "s1;s1;", 114);
        fault(MOST_ITEMS + " s", 118);
        fault(MOST_ITEMS + "n", 117);
        fault(MOST_ITEMS + "d", 117);
        fault(MOST_ITEMS + "b", 117);
    }

    private static void placesThatThereAreNot() {
        CHECK.sentence("a PLACE that there is not, B that is A, HIGH less than LOW, a NUMBER beyond what it may be, too");
        for (int places = 2; places <= 8; places++) {
            int last = places - 1;
            String n = "n" + places + ";";
            taken(n + "d" + last + " 0 1;", 2);
            taken(n + "d0 " + last + " 1;", 2);
            fault(n + "d" + places + " 0 1;", 4);
            fault(n + "d0 " + places + " 1;", 6);
            fault(n + "d" + last + " " + last + " 1;", 6);
        }
        fault("n1;d1 0 1;", 4);
        fault("n1;d0 1 1;", 6);
        fault("n1;d0 0 1;", 6);
        fault("d2 0 1;", 1);
        fault("d0 2 1;", 3);
        fault("d1 1 1;", 3);
        fault("b9 8 7 8 0;", 3);
        fault("b40 39 7 8 0;", 4);
        fault("d0 1 41;", 5);
        fault("n0;", 1);
        fault("n9;", 1);
        fault("s41;", 1);
    }

    private static void numbersAboveNinetyNine() {
        CHECK.sentence("of any other letter, a NUMBER above 99");
        String[] above = {"99", "100", "101", "999", "1000", "65537", "4294967297", "4294967301", "18446744073709551617",
            "1" + "0".repeat(100), "9".repeat(120)};
        for (String number : above) {
            fault("n" + number + ";", 1);
            fault(" s " + number + " ;", 3);
            fault("d0 1 " + number + ";", 5);
            fault("b0 1 7 8 " + number + ";", 9);
        }
        fault("s7;100", 3);
        fault("s7 100;", 3);
        fault("s" + "1".repeat(149), 1);
        fault("1".repeat(150), 0);
    }

    private static void zeroAheadOfOthers() {
        CHECK.sentence("or with a 0 ahead of others, that TOKEN's");
        taken("s0;", 1);
        taken("s10;", 1);
        taken("d0 1 0;", 1);
        taken("b0 0 7 8 0;", 1);
        for (String number : new String[] {"00", "01", "02", "010", "000", "0000000000", "0100"}) {
            fault("n" + number + ";", 1);
            fault("d" + number + " 0 7;", 1);
            fault("d1 " + number + " 7;", 3);
            fault("d0 1 " + number + ";", 5);
            fault("b" + number + " 40 7 8 1;", 1);
            fault("b0 " + number + " 7 8 1;", 3);
            fault("b0 1 7 8 " + number + ";", 9);
            fault("s" + number + ";", 1);
            fault("s0 " + number + ";", 3);
            fault("s0;" + number, 3);
        }
        fault("b0 1 07 8 1;", 5);
        fault("b0 1 7 08 1;", 7);
    }

    private static void endsTooEarly() {
        CHECK.sentence("the text's length, if it ends too early");
        String[][] items = {{"n", "2", ";"}, {"d", "0", "1", "7", ";"}, {"b", "0", "1", "7", "8", "1", ";"}, {"s", "7", ";"}};
        for (String[] item : items) {
            for (int tokens = 1; tokens < item.length; tokens++) {
                String text = String.join(" ", Arrays.copyOf(item, tokens));
                fault(text, text.length());
                fault(text + " ", text.length() + 1);
                fault("   " + text + " ".repeat(20), text.length() + 23);
                fault("n2;" + (text.startsWith("n") ? "s" : text), 3 + (text.startsWith("n") ? 1 : text.length()));
            }
            taken(String.join(" ", item), 1);
        }
        fault("s" + " ".repeat(149), 150);
        fault(" ".repeat(149) + "n", 150);
    }

    private static void theFirstFaultCounts() {
        CHECK.sentence("the first TOKEN that can't stand there");
        fault("s41;x", 1);
        fault("x s41;", 0);
        fault("s7;n2;x", 3);
        fault("s7;x n2;", 3);
        fault("s 41 100 x", 2);
        fault("d0 0 41;", 3);
        fault("d2 2 41;", 1);
        fault("b9 8 6 21 2;", 3);
        fault("b0 1 6 21 2;", 5);
        fault("b0 1 7 21 2;", 7);
        fault("n9", 1);
        fault("s41", 1);
        fault("s00", 1);
        fault("n2;d0 1 41;d0 1 42;", 8);
    }

    private static void constants() {
        CHECK.sentence("public static final int BAD = -1, STATE = -2, FULL = -3, NONE = -9;");
        CHECK.due("BAD", ChoristerKeys.BAD, -1);
        CHECK.due("STATE", ChoristerKeys.STATE, -2);
        CHECK.due("FULL", ChoristerKeys.FULL, -3);
        CHECK.due("NONE", ChoristerKeys.NONE, -9);
        CHECK.sentence("`NO = -1000000`: What is BAD, where a number may be below 0.");
        CHECK.due("NO", ChoristerKeys.NO, -1000000);
    }

    private static void newObject() {
        CHECK.sentence("As told; 2 PLACES, no DOORS, no BOYS.");
        Asked keys = new Asked();
        int[] counts = {2, 0, 0, 5, 0, 0};
        for (int what = 0; what < counts.length; what++) {
            CHECK.due(keys, Calls.written("count", what), counts[what]);
        }
        for (int what = 0; what <= 4; what++) {
            CHECK.due(keys, Calls.written("now", what), 0);
            CHECK.due(keys, Calls.written("door", 0, what), -1);
        }
        for (int what = 0; what <= 9; what++) {
            CHECK.due(keys, Calls.written("boy", 0, what), -1000000);
        }
        String[] calls = {"clear()", "forget()", "who()", "ask()", "trace()", "undo()", "posts(-1)", "posts(0)",
            "tune(0)", "tune(1)", "odds(5, 0, 0)", "odds(5, 0, 1)", "way(0, 0)", "thirds(0, 1)", "hears(0, 0)",
            "goes(0, 0)", "colds(0, 0)", "props(0, 0)", "rate(0, 0)", "back(0)", "back(1)", "city()"};
        int[] due = {0, 0, 0, -9, 0, -2, 0, -1, 0, -1, 1, 1, -1, -1, -1, -1, -1, -1, -1000000, -2, -2, 0};
        for (int i = 0; i < calls.length; i++) {
            CHECK.due(keys, calls[i], due[i]);
        }
        CHECK.due(keys, "keep(0)", 0);
        CHECK.due(keys, "back(0)", 0);
        CHECK.due(keys, "michaelmas()", 0);
        CHECK.due(keys, "year()", 0);
        CHECK.due(keys, "undo()", 1);
    }

    private static void type() {
        CHECK.sentence("A letter (0 .. 255) comes to THE TEXT: how many it has. BAD; FULL.");
        Asked keys = new Asked();
        CHECK.due(keys, "type(0)", 1);
        CHECK.due(keys, "type(-1)", -1);
        CHECK.due(keys, "type(255)", 2);
        CHECK.due(keys, "type(256)", -1);
        CHECK.due(keys, "type(" + Integer.MIN_VALUE + ")", -1);
        CHECK.due(keys, "type(" + Integer.MAX_VALUE + ")", -1);
        CHECK.due(keys, "count(5)", 2);
        CHECK.due(keys, "clear()", 2);
        for (int letter = 0; letter < 150; letter++) {
            CHECK.due(keys, Calls.written("type", letter), letter + 1);
        }
        CHECK.due(keys, "type(0)", -3);
        CHECK.due(keys, "type(255)", -3);
        CHECK.due(keys, "type(-1)", -1);
        CHECK.due(keys, "type(256)", -1);
        CHECK.due(keys, "count(5)", 150);
        CHECK.due(keys, "city()", -10);
        CHECK.due(keys, "type(32)", -3);
        CHECK.due(keys, "clear()", 150);
        CHECK.due(keys, "type(32)", 1);
    }

    private static void clear() {
        CHECK.sentence("THE TEXT is empty: how many letters it had.");
        Asked keys = CHECK.asked(TOLD);
        CHECK.due(keys, "clear()", 0);
        CHECK.due(keys, "type(110)", 1);
        CHECK.due(keys, "clear()", 1);
        CHECK.due(keys, "clear()", 0);
        CHECK.due(keys, "count(5)", 0);
        CHECK.due(keys.types("s3;"), "city()", 1);
        CHECK.due(keys, "clear()", 0);
        keys.types("x".repeat(151));
        CHECK.due(keys, "clear()", 150);
        CHECK.due(keys.types("n3;"), "clear()", 3);
        CHECK.due(keys, "count(0)", 2);
        CHECK.due(keys, "city()", 0);
        CHECK.due(keys, "count(0)", 2);
    }

    private static void city() {
        CHECK.sentence("THE TEXT tells all anew, and is empty then: how many ITEMS.");
        Asked keys = CHECK.asked(TOLD).types(MOST_ITEMS);
        CHECK.due(keys, "city()", 15);
        CHECK.due(keys, "count(5)", 0);
        CHECK.due(keys, "count(1)", 8);
        CHECK.due(keys, "city()", 0);
        int[] counts = {2, 0, 0, 5, 0, 0};
        for (int what = 0; what < counts.length; what++) {
            CHECK.due(keys, Calls.written("count", what), counts[what]);
        }
        CHECK.due(keys.types("b3 4 8 9 1;"), "city()", 1);
        CHECK.due(keys, "boy(0, 0)", 3);
        CHECK.due(keys, "boy(1, 0)", -1000000);
        CHECK.due(keys, "door(0, 0)", -1);
    }

    private static void refusedCity() {
        CHECK.sentence("-10 less FAULT: nothing changes (THE TEXT stays, too).");
        fault("x", 0);
        fault(" x", 1);
        fault(" ".repeat(149) + "x", 149);
        fault(" ".repeat(149) + "n", 150);
        Asked keys = CHECK.asked(TOLD).types("n");
        CHECK.due(keys, "city()", -11);
        CHECK.due(keys, "count(0)", 3);
        CHECK.due(keys.types("8"), "city()", -12);
        CHECK.due(keys, "count(0)", 3);
        CHECK.due(keys.types(";"), "city()", 1);
        CHECK.due(keys, "count(0)", 8);
        CHECK.due(keys, "count(5)", 0);
    }
}
