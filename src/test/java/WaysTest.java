/** Promises 14 to 18: ways, posts, tunes, thirds, odds. */
final class WaysTest {
    private static final Check CHECK = new Check("WaysTest");
    private static final int[] WRONG = {-2, Integer.MIN_VALUE, Integer.MAX_VALUE};

    public static void main(String[] args) {
        ways();
        posts();
        tunes();
        thirds();
        odds();
        oddsOfTheUnbroken();
        CHECK.end();
    }

    private static void ways() {
        ChoristerKeys keys = CHECK.told("n6;d0 1 20;d1 2 20;d2 3 20;d0 4 20;d3 4 21;d4 5 9;b20 20 8 9 0;b21 21 8 9 4;");
        int[] first = {0, 1, 2, 3, 1, -9};
        for (int place = 0; place < first.length; place++) {
            CHECK.due("way(0, " + place + ")", keys.way(0, place), first[place]);
        }
        CHECK.due("way(1, 3)", keys.way(1, 3), 1);
        CHECK.due("way(1, 0)", keys.way(1, 0), -9);
        keys.props(4, 1);
        CHECK.due("the shorter way", keys.way(0, 3), 2);
        keys.goes(0, 0);
        CHECK.due("from where he is", keys.way(0, 3), 2);
        CHECK.due("home", keys.way(0, 0), 1);
        CHECK.due("no such place", keys.way(0, 6), -1);
        CHECK.due("no such place", keys.way(0, -1), -1);
        CHECK.due("no such boy", keys.way(2, 0), -1);
        for (int wrong : WRONG) {
            CHECK.due("way(0, " + wrong + ")", keys.way(0, wrong), -1);
            CHECK.due("way(" + wrong + ", 0)", keys.way(wrong, 0), -1);
        }
        ChoristerKeys row = CHECK.told(
            "n8;d0 1 5;d1 2 5;d2 3 5;d3 4 5;d4 5 5;d5 6 5;d6 7 5;b5 5 7 8 0;b5 5 7 8 7;");
        CHECK.due("seven doors", row.way(0, 7), 7);
        CHECK.due("seven doors back", row.way(1, 0), 7);
        CHECK.due("all are reached", row.boy(0, 8), 255);
    }

    private static void posts() {
        ChoristerKeys none = CHECK.told("b5 5 7 8 0;");
        CHECK.due("no doors", none.posts(-1), 0);
        CHECK.due("no doors", none.posts(0), -9);
        ChoristerKeys keys = CHECK.told("d0 1 5;d0 1 9;d0 1 12;b5 9 7 8 0;b5 5 7 8 0;b12 12 7 8 0;b9 9 7 8 0;");
        CHECK.due("three", keys.posts(-1), 3);
        CHECK.due("the lowest", keys.posts(0), 0);
        CHECK.due("it is taken", keys.posts(1), -9);
        CHECK.due("his own", keys.posts(2), 2);
        CHECK.due("what is left", keys.posts(3), 1);
        keys.props(1, 1);
        CHECK.due("as it is now", keys.posts(1), 1);
        keys.props(1, 0);
        CHECK.due("as it is now", keys.posts(1), -9);
        ChoristerKeys yields = CHECK.told("d0 1 5;d0 1 9;b5 9 7 8 0;b5 5 7 8 0;");
        CHECK.due("two", yields.posts(-1), 2);
        CHECK.due("not the lowest, for the other's sake", yields.posts(0), 1);
        CHECK.due("the other", yields.posts(1), 0);
        ChoristerKeys fewer = CHECK.told("d0 1 5;b5 9 7 8 0;b5 5 7 8 0;");
        CHECK.due("one", fewer.posts(-1), 1);
        CHECK.due("the first has it", fewer.posts(0), 0);
        CHECK.due("the second none", fewer.posts(1), -9);
        ChoristerKeys propped = CHECK.told("d0 1 40;d0 1 40;b5 9 7 8 0;b5 5 7 8 0;");
        CHECK.due("nothing opened", propped.posts(-1), 0);
        propped.props(1, 1);
        CHECK.due("propped", propped.posts(-1), 1);
        CHECK.due("propped", propped.posts(0), 1);
        CHECK.due("no such boy", propped.posts(2), -1);
        for (int wrong : WRONG) {
            CHECK.due("posts(" + wrong + ")", propped.posts(wrong), -1);
        }
    }

    private static void tunes() {
        ChoristerKeys keys = CHECK.told("b0 10 7 8 0;b5 20 7 8 0;b40 40 7 8 0;");
        CHECK.due("nobody", keys.tune(0), 21);
        CHECK.due("the first", keys.tune(1), 0);
        CHECK.due("the second", keys.tune(2), 11);
        CHECK.due("both", keys.tune(3), 5);
        CHECK.due("the third, at the top", keys.tune(4), 40);
        CHECK.due("no two others", keys.tune(5), -9);
        CHECK.due("all", keys.tune(7), -9);
        keys.colds(0, 9);
        CHECK.due("a cold", keys.tune(3), -9);
        CHECK.due("a cold", keys.tune(0), 2);
        CHECK.due("no such boy", keys.tune(8), -1);
        CHECK.due("below 0", keys.tune(-1), -1);
        for (int wrong : WRONG) {
            CHECK.due("tune(" + wrong + ")", keys.tune(wrong), -1);
        }
        ChoristerKeys full = CHECK.told("b0 40 7 8 0;b0 40 7 8 0;b0 40 7 8 0;b0 40 7 8 0;b0 40 7 8 0;");
        CHECK.due("five", full.tune(31), 0);
        CHECK.due("none", full.tune(0), -9);
        CHECK.due("a sixth", full.tune(32), -1);
        ChoristerKeys propped = CHECK.told("d0 1 30;b0 29 7 8 0;");
        propped.props(0, 1);
        CHECK.due("a propped door is not sung", propped.tune(0), 30);
    }

    private static void thirds() {
        ChoristerKeys keys = CHECK.told("d0 1 20;d0 1 24;d0 1 20;d0 1 16;d0 1 21;b20 24 7 8 0;b16 20 7 8 0;b0 3 7 8 0;");
        CHECK.due("20 and 24", keys.thirds(0, 1), 4);
        CHECK.due("the other way", keys.thirds(1, 0), 4);
        CHECK.due("he sings none", keys.thirds(0, 2), 0);
        keys.props(0, 1);
        keys.props(1, 1);
        CHECK.due("propped does not matter", keys.thirds(0, 1), 4);
        CHECK.due("propped is not sung", keys.thirds(0, 2), 0);
        keys.colds(0, 1);
        CHECK.due("a cold", keys.thirds(0, 1), 2);
        CHECK.due("the same", keys.thirds(0, 0), -1);
        CHECK.due("no such boy", keys.thirds(0, 3), -1);
        CHECK.due("no such boy", keys.thirds(3, 0), -1);
        CHECK.due("no such boys", keys.thirds(3, 3), -1);
        for (int wrong : WRONG) {
            CHECK.due("thirds(0, " + wrong + ")", keys.thirds(0, wrong), -1);
            CHECK.due("thirds(" + wrong + ", 0)", keys.thirds(wrong, 0), -1);
        }
        ChoristerKeys around = CHECK.told("d0 1 39;d0 1 2;b0 40 7 8 0;b0 40 7 8 0;");
        CHECK.due("not around 41", around.thirds(0, 1), 0);
        ChoristerKeys unlike = CHECK.told("d0 1 20;d0 1 24;b20 20 7 8 0;b20 24 7 8 0;");
        CHECK.due("one row", unlike.thirds(0, 1), 1);
        CHECK.due("one row", unlike.thirds(1, 0), 1);
    }

    private static void fraction(ChoristerKeys keys, int x, int k, int upper, int lower) {
        CHECK.due("odds(" + x + ", " + k + ", 0)", keys.odds(x, k, 0), upper);
        CHECK.due("odds(" + x + ", " + k + ", 1)", keys.odds(x, k, 1), lower);
    }

    private static void odds() {
        ChoristerKeys keys = CHECK.told("b0 1 7 8 0;b0 1 7 8 0;b0 1 7 8 0;b0 1 8 8 0;");
        fraction(keys, 5, 0, 1, 8);
        fraction(keys, 5, 1, 1, 2);
        fraction(keys, 5, 2, 7, 8);
        fraction(keys, 5, 3, 1, 1);
        fraction(keys, 5, 5, 1, 1);
        fraction(keys, 0, 0, 1, 1);
        fraction(keys, 10, 2, 0, 1);
        fraction(keys, 10, 3, 1, 1);
        fraction(keys, 1, 0, 729, 1000);
        fraction(keys, 1, 1, 243, 250);
        fraction(keys, 3, 1, 98, 125);
        fraction(CHECK.told("b0 1 7 8 0;b0 1 7 8 0;b0 1 7 8 0;b0 1 7 8 0;b0 1 7 8 0;"), 1, 4, 99999, 100000);
        fraction(new ChoristerKeys(), 5, 0, 1, 1);
        ChoristerKeys five = CHECK.told("b0 1 7 8 0;b0 1 7 8 0;b0 1 7 8 0;b0 1 7 8 0;b0 1 7 8 0;");
        fraction(five, 10, 4, 0, 1);
        fraction(five, 10, 5, 1, 1);
        fraction(five, 5, 4, 31, 32);
        fraction(five, 5, 5, 1, 1);
        fraction(five, 2, 5, 1, 1);
        fraction(five, 0, 0, 1, 1);
        CHECK.due("x above 10", keys.odds(11, 0, 0), -1);
        CHECK.due("k above 5", keys.odds(0, 6, 0), -1);
        CHECK.due("what above 1", keys.odds(0, 0, 2), -1);
        CHECK.due("x below 0", keys.odds(-1, 0, 0), -1);
        CHECK.due("k below 0", keys.odds(0, -1, 0), -1);
        CHECK.due("what below 0", keys.odds(0, 0, -1), -1);
        for (int wrong : WRONG) {
            CHECK.due("odds(" + wrong + ", 0, 0)", keys.odds(wrong, 0, 0), -1);
            CHECK.due("odds(0, " + wrong + ", 0)", keys.odds(0, wrong, 0), -1);
            CHECK.due("odds(0, 0, " + wrong + ")", keys.odds(0, 0, wrong), -1);
        }
    }

    private static void oddsOfTheUnbroken() {
        ChoristerKeys keys = CHECK.told("b0 1 7 8 0;b0 1 7 9 0;");
        fraction(keys, 2, 0, 16, 25);
        keys.colds(0, 3);
        fraction(keys, 2, 0, 16, 25);
        keys.year();
        fraction(keys, 2, 0, 4, 5);
        keys.year();
        fraction(keys, 2, 0, 1, 1);
    }
}
