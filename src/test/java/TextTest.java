/** Promises 1 to 4: a new object, THE TEXT, and how it is read. */
final class TextTest {
    private static final Check CHECK = new Check("TextTest");
    private static final String FAULT = "fault of: ";

    public static void main(String[] args) {
        aNewObject();
        letters();
        items();
        faultsOfOrder();
        faultsOfNumbers();
        faultsOfLetters();
        textsThatEndTooEarly();
        aFaultChangesNothing();
        allIsToldAnew();
        CHECK.end();
    }

    private static void fault(String text, int place) {
        CHECK.due(FAULT + text, Check.read(text), -10 - place);
    }

    private static void aNewObject() {
        ChoristerKeys keys = new ChoristerKeys();
        int[] counts = {2, 0, 0, 5, 0, 0};
        for (int what = 0; what < counts.length; what++) {
            CHECK.due("count(" + what + ")", keys.count(what), counts[what]);
        }
        for (int what = 0; what < 5; what++) {
            CHECK.due("now(" + what + ")", keys.now(what), 0);
        }
        CHECK.due("door(0, 0)", keys.door(0, 0), -1);
        CHECK.due("boy(0, 0)", keys.boy(0, 0), -1000000);
        CHECK.due("trace()", keys.trace(), 0);
        CHECK.due("back(0)", keys.back(0), -2);
        CHECK.due("back(1)", keys.back(1), -2);
        CHECK.due("BAD", ChoristerKeys.BAD, -1);
        CHECK.due("STATE", ChoristerKeys.STATE, -2);
        CHECK.due("FULL", ChoristerKeys.FULL, -3);
        CHECK.due("NONE", ChoristerKeys.NONE, -9);
        CHECK.due("NO", ChoristerKeys.NO, -1000000);
    }

    private static void letters() {
        ChoristerKeys keys = new ChoristerKeys();
        CHECK.due("clear() of nothing", keys.clear(), 0);
        CHECK.due("type(0)", keys.type(0), 1);
        CHECK.due("type(255)", keys.type(255), 2);
        CHECK.due("type(256)", keys.type(256), -1);
        CHECK.due("type(-1)", keys.type(-1), -1);
        CHECK.due("letters", keys.count(5), 2);
        CHECK.due("clear()", keys.clear(), 2);
        CHECK.due("letters behind clear()", keys.count(5), 0);
        for (int i = 1; i <= 150; i++) {
            CHECK.due("type(32), the " + i + ".", keys.type(32), i);
        }
        CHECK.due("the 151.", keys.type(32), -3);
        CHECK.due("BAD ahead of FULL", keys.type(256), -1);
        CHECK.due("still 150", keys.count(5), 150);
        CHECK.due("150 blanks tell nothing", keys.city(), 0);
        CHECK.due("empty behind city()", keys.count(5), 0);
        CHECK.due("room again", keys.type('n'), 1);
    }

    private static void items() {
        CHECK.due("no letters", Check.read(""), 0);
        CHECK.due("blanks", Check.read("   "), 0);
        CHECK.due("one item", Check.read("n1;"), 1);
        CHECK.due("n 8", Check.read(" n  8 ; "), 1);
        CHECK.due("numbers to the brim", Check.read("n8;d7 0 40;b40 40 20 20 7;s40;"), 4);
        CHECK.due("numbers at the least", Check.read("s0;b0 0 7 7 0;d0 1 0;"), 3);
        CHECK.due("s ahead of d", Check.read("n2;s7;d1 0 3;"), 3);
        CHECK.due("8 doors", Check.read(repeat("d0 1 1;", 8)), 8);
        CHECK.due("5 boys", Check.read(repeat("b0 1 7 8 1;", 5)), 5);
        CHECK.due("no blanks but between numbers", Check.read("n3;d2 1 9;b3 12 8 9 1;s0;"), 4);
    }

    private static void faultsOfOrder() {
        fault("n2;n2;", 3);
        fault("s1;n2;", 3);
        fault("d0 1 1; n 2;", 8);
        fault("s1;s1;", 3);
        fault("s1;d0 1 1;s1;", 10);
        fault(repeat("d0 1 1;", 8) + "d0 1 1;", 56);
        fault(repeat("b0 1 7 8 1;", 5) + " b", 56);
        fault(";", 0);
        fault("n2;;", 3);
        fault(" 5", 1);
        fault("n;", 1);
        fault("n d", 2);
        fault("n2 2;", 3);
        fault("n2 d0 1 1;", 3);
        fault("d0 1;", 4);
        fault("d0 1 1 1;", 7);
        fault("b0 1 7 8 1 1;", 11);
        fault("s;", 1);
        fault("n2;d0 1 1;b0 1 7 8 n;", 19);
        fault("n0;x", 1);
    }

    private static void faultsOfNumbers() {
        fault("n0;", 1);
        fault("n9;", 1);
        fault("d2 0 1;", 1);
        fault("d0 2 1;", 3);
        fault("d0 0 1;", 3);
        fault("n8;d7 8 1;", 6);
        fault("n1;d0 0 1;", 6);
        fault("n1;d0 1 1;", 6);
        fault("d0 1 41;", 5);
        fault("b41 41 7 7 0;", 1);
        fault("b5 4 7 7 0;", 3);
        fault("b5 41 7 7 0;", 3);
        fault("b5 5 6 7 0;", 5);
        fault("b5 5 21 7 0;", 5);
        fault("b5 5 7 6 0;", 7);
        fault("b5 5 7 21 0;", 7);
        fault("b5 5 7 7 2;", 9);
        fault("n3;b5 5 7 7 3;", 12);
        fault("s41;", 1);
    }

    private static void faultsOfLetters() {
        fault("x", 0);
        fault("n2;N", 3);
        fault("n2;" + (char) 9, 3);
        fault("n2,", 2);
        fault("n-1;", 1);
        fault("n100;", 1);
        fault("s 100;", 2);
        fault("s 999999999999999999999;", 2);
        fault("s 4294967301;", 2);
        fault("s 00;", 2);
        fault("s 05;", 2);
        fault("s 0 5;", 4);
        fault("n2;05;", 3);
        fault("n2;d01 1;", 4);
        fault("" + (char) 0, 0);
        fault("" + (char) 255, 0);
    }

    private static void textsThatEndTooEarly() {
        fault("n", 1);
        fault("n2", 2);
        fault("n 2  ", 5);
        fault("n2;d", 4);
        fault("n2;d0 1", 7);
        fault("n2;d0 1 1 ", 10);
        fault("b", 1);
        fault("b1 2 ", 5);
        fault("s", 1);
        fault("s40", 3);
    }

    private static void aFaultChangesNothing() {
        ChoristerKeys keys = CHECK.told("n3;d0 1 20;d1 2 30;b10 25 9 13 0;s7;");
        keys.year();
        keys.goes(0, 0);
        keys.hears(1, 1);
        keys.keep(1);
        Check.typed(keys, "n2;d0 1 5;b1 2 7 8 9;");
        CHECK.due("city()", keys.city(), -29);
        CHECK.due("city() again", keys.city(), -29);
        int[] counts = {3, 2, 1, 7, 1, 21};
        for (int what = 0; what < counts.length; what++) {
            CHECK.due("count(" + what + ") behind a fault", keys.count(what), counts[what]);
        }
        CHECK.due("year", keys.now(0), 1);
        CHECK.due("deeds", keys.now(4), 2);
        CHECK.due("place", keys.boy(0, 5), 1);
        CHECK.due("side", keys.door(1, 1), 2);
        CHECK.due("pitch", keys.door(0, 2), 20);
        CHECK.due("lowest", keys.boy(0, 0), 10);
        CHECK.due("the image is there", keys.back(1), 1);
    }

    private static void allIsToldAnew() {
        ChoristerKeys keys = CHECK.told("n3;d0 1 20;d1 2 30;b10 25 9 13 0;s7;");
        keys.year();
        keys.goes(0, 0);
        keys.props(1, 1);
        keys.colds(0, 3);
        keys.hears(1, 1);
        keys.keep(0);
        keys.keep(1);
        keys.rate(0, 0);
        Check.typed(keys, "d0 1 20;b10 25 9 13 1;");
        CHECK.due("city()", keys.city(), 2);
        int[] counts = {2, 1, 1, 5, 0, 0};
        for (int what = 0; what < counts.length; what++) {
            CHECK.due("count(" + what + ") told anew", keys.count(what), counts[what]);
        }
        CHECK.due("year", keys.now(0), 0);
        CHECK.due("propped", keys.now(1), 0);
        CHECK.due("home", keys.now(2), 1);
        CHECK.due("deeds", keys.now(4), 0);
        CHECK.due("undo()", keys.undo(), -2);
        CHECK.due("age", keys.boy(0, 2), 9);
        CHECK.due("place", keys.boy(0, 5), 1);
        CHECK.due("cold", keys.boy(0, 6), 0);
        CHECK.due("image 0", keys.back(0), -2);
        CHECK.due("image 1", keys.back(1), -2);
        CHECK.due("the trace goes on", keys.trace(), 1);
        CHECK.due("city() of nothing", keys.city(), 0);
        CHECK.due("no doors", keys.count(1), 0);
        CHECK.due("no boys", keys.count(2), 0);
        CHECK.due("the trace goes on still", keys.trace(), 1);
        oneTextBehindTheOther();
    }

    private static void oneTextBehindTheOther() {
        ChoristerKeys keys = new ChoristerKeys();
        Check.typed(keys, "s7;n1");
        CHECK.due("a fault", keys.city(), -13);
        CHECK.due("clear()", keys.clear(), 5);
        Check.typed(keys, "n3;s8;d2 1 5;");
        CHECK.due("s once in each text", keys.city(), 3);
        Check.typed(keys, "s9;d0 1 5;");
        CHECK.due("s once in each text", keys.city(), 2);
        CHECK.due("step", keys.count(3), 9);
        CHECK.due("places as at first", keys.count(0), 2);
        Check.typed(keys, "d2 1 5;");
        CHECK.due("place 2 is gone", keys.city(), -11);
    }

    private static String repeat(String item, int times) {
        return item.repeat(times);
    }
}
