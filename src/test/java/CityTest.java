/** Promises 5 to 7 and 26: what a DOOR, a BOY, NOW and the counts tell. */
final class CityTest {
    private static final Check CHECK = new Check("CityTest");
    private static final int NO = -1000000;
    private static final String CITY =
        "n4; d 1 0 20; d 1 2 24; d 3 2 8; b 18 24 8 10 1; b 20 24 12 12 2; b 8 30 9 13 3; s 3;";

    public static void main(String[] args) {
        doors();
        boys();
        voices();
        now();
        all();
        shutOut();
        counts();
        CHECK.end();
    }

    private static void doors() {
        ChoristerKeys keys = CHECK.told(CITY);
        CHECK.due("one side", keys.door(0, 0), 1);
        CHECK.due("other side", keys.door(0, 1), 0);
        CHECK.due("pitch", keys.door(2, 2), 8);
        CHECK.due("not propped", keys.door(0, 3), 0);
        CHECK.due("opened by", keys.door(0, 4), 5);
        CHECK.due("opened by", keys.door(1, 4), 5);
        CHECK.due("opened by", keys.door(2, 4), 6);
        keys.props(0, 1);
        CHECK.due("propped", keys.door(0, 3), 1);
        CHECK.due("another is not", keys.door(1, 3), 0);
        CHECK.due("opened by all", keys.door(0, 4), 7);
        CHECK.due("its places stay as told", keys.door(2, 0), 3);
        for (int what : new int[] {-1, 5, Integer.MIN_VALUE, Integer.MAX_VALUE}) {
            CHECK.due("door(0, " + what + ")", keys.door(0, what), -1);
        }
        for (int d : new int[] {-1, 3, 8, Integer.MIN_VALUE, Integer.MAX_VALUE}) {
            CHECK.due("door(" + d + ", 0)", keys.door(d, 0), -1);
        }
    }

    private static void boys() {
        ChoristerKeys keys = CHECK.told(CITY);
        int[] first = {18, 24, 8, 10, 1, 1, 0, 3, 7, -9};
        int[] second = {8, 12, 12, 12, 2, 2, 0, 4, 12, -9};
        for (int what = 0; what < first.length; what++) {
            CHECK.due("boy(0, " + what + ")", keys.boy(0, what), first[what]);
            CHECK.due("boy(1, " + what + ")", keys.boy(1, what), second[what]);
        }
        keys.goes(1, 2);
        CHECK.due("home stays", keys.boy(1, 4), 2);
        CHECK.due("place then", keys.boy(1, 5), 3);
        for (int what : new int[] {-1, 10, Integer.MIN_VALUE, Integer.MAX_VALUE}) {
            CHECK.due("boy(0, " + what + ")", keys.boy(0, what), NO);
        }
        for (int b : new int[] {-1, 3, 5, Integer.MIN_VALUE, Integer.MAX_VALUE}) {
            CHECK.due("boy(" + b + ", 0)", keys.boy(b, 0), NO);
        }
    }

    private static void voices() {
        ChoristerKeys keys = CHECK.told("d0 1 28;d0 1 16;d0 1 29;b28 30 8 10 0;b0 3 20 7 1;");
        keys.colds(0, 1);
        CHECK.due("a cold leaves the lowest", keys.boy(0, 0), 28);
        CHECK.due("a cold takes from the highest", keys.boy(0, 1), 29);
        CHECK.due("both ends are sung", keys.boy(0, 7), 5);
        keys.colds(0, 3);
        CHECK.due("highest below lowest", keys.boy(0, 1), 27);
        CHECK.due("nothing is sung", keys.boy(0, 7), 0);
        keys.year();
        CHECK.due("a year takes the cold", keys.boy(0, 1), 30);
        CHECK.due("not yet broken", keys.boy(0, 0), 28);
        keys.year();
        CHECK.due("broken", keys.boy(0, 0), 16);
        CHECK.due("broken", keys.boy(0, 1), 18);
        CHECK.due("keys", keys.boy(0, 7), 2);
        CHECK.due("long broken, below 0", keys.boy(1, 0), -12);
        CHECK.due("long broken, below 0", keys.boy(1, 1), -9);
        keys.colds(1, 9);
        CHECK.due("a cold on top", keys.boy(1, 1), -18);
        CHECK.due("cold", keys.boy(1, 6), 9);
        CHECK.due("reach without keys", keys.boy(1, 8), 2);
        keys.props(2, 1);
        CHECK.due("a propped door is opened", keys.boy(1, 7), 4);
        CHECK.due("reach by it", keys.boy(1, 8), 3);
    }

    private static void now() {
        ChoristerKeys keys = CHECK.told(CITY);
        CHECK.due("all at home", keys.now(2), 7);
        keys.goes(0, 0);
        CHECK.due("one is out", keys.now(2), 6);
        keys.props(0, 1);
        keys.props(2, 1);
        CHECK.due("propped", keys.now(1), 5);
        CHECK.due("deeds", keys.now(4), 3);
        keys.year();
        CHECK.due("year", keys.now(0), 1);
        for (int i = 0; i < 8; i++) {
            keys.michaelmas();
        }
        CHECK.due("ten deeds are known", keys.now(4), 10);
        for (int what : new int[] {-1, 5, Integer.MIN_VALUE, Integer.MAX_VALUE}) {
            CHECK.due("now(" + what + ")", keys.now(what), -1);
        }
    }

    private static void all() {
        CHECK.due("no doors", CHECK.told("b0 5 7 8 0;").now(3), 0);
        CHECK.due("no boys", CHECK.told("d0 1 5;").now(3), -9);
        CHECK.due("no boys, propped", proppedFirst("d0 1 5;").now(3), -9);
        CHECK.due("propped, of several the least", proppedFirst("d0 1 40;b0 1 7 8 0;b0 1 7 8 0;").now(3), 1);
        CHECK.due("one door opened by nobody", CHECK.told("d0 1 5;d0 1 9;b0 8 7 8 0;").now(3), -9);
        CHECK.due("the last one alone",
            CHECK.told("d0 1 5;d0 1 9;b0 8 7 8 0;b8 9 7 8 0;b5 9 7 8 0;").now(3), 4);
        CHECK.due("of two pairs the least",
            CHECK.told("d0 1 1;d0 1 9;b9 9 7 8 0;b9 9 7 8 0;b1 1 7 8 0;b1 1 7 8 0;").now(3), 5);
        CHECK.due("the fewest before the least",
            CHECK.told("d0 1 1;d0 1 5;d0 1 9;b1 1 7 8 0;b5 5 7 8 0;b9 9 7 8 0;b1 6 7 8 0;b5 9 7 8 0;").now(3), 12);
    }

    private static ChoristerKeys proppedFirst(String text) {
        ChoristerKeys keys = CHECK.told(text);
        keys.props(0, 1);
        return keys;
    }

    private static void shutOut() {
        ChoristerKeys keys = CHECK.told("n3;d0 1 20;d1 2 22;b20 22 8 10 0;b18 30 7 20 0;b0 40 7 20 0;b32 34 8 9 0;");
        keys.goes(0, 0);
        CHECK.due("when his voice breaks", keys.boy(0, 9), 2);
        keys.goes(0, 1);
        CHECK.due("from farther off too", keys.boy(0, 9), 2);
        keys.colds(0, 1);
        CHECK.due("by a cold, now", keys.boy(0, 9), 0);
        keys.props(1, 1);
        CHECK.due("a propped door helps with the cold", keys.boy(0, 9), 2);
        keys.props(0, 1);
        CHECK.due("all propped", keys.boy(0, 9), -9);
        CHECK.due("nothing was changed", keys.boy(0, 2), 8);
        CHECK.due("nothing was changed", keys.now(0), 0);
        keys.goes(1, 0);
        keys.props(0, 0);
        CHECK.due("in 13 years", keys.boy(1, 9), 13);
        keys.goes(2, 0);
        CHECK.due("his voice holds both ways", keys.boy(2, 9), -9);
        CHECK.due("at home", keys.boy(3, 9), -9);
        keys.props(0, 1);
        keys.goes(3, 0);
        keys.props(0, 0);
        CHECK.due("now, though he could later", keys.boy(3, 9), 0);
        pastTheLastYear();
    }

    private static void pastTheLastYear() {
        ChoristerKeys keys = CHECK.told("d0 1 40;b40 40 7 20 0;b20 20 7 20 0;");
        keys.goes(0, 0);
        CHECK.due("in 13 years", keys.boy(0, 9), 13);
        for (int i = 0; i < 99; i++) {
            keys.year();
        }
        CHECK.due("past year 99 as well", keys.boy(0, 9), 0);
        keys = CHECK.told("d0 1 35;b30 40 7 20 0;b20 20 7 20 0;s12;");
        keys.goes(0, 0);
        CHECK.due("no michaelmas comes", keys.boy(0, 9), 13);
        keys.michaelmas();
        keys.michaelmas();
        keys.michaelmas();
        CHECK.due("his pitch is gone", keys.door(0, 2), 30);
        CHECK.due("still 13", keys.boy(0, 9), 13);
    }

    private static void counts() {
        ChoristerKeys keys = CHECK.told(CITY);
        keys.hears(0, 1);
        keys.type('n');
        int[] counts = {4, 3, 3, 3, 1, 1};
        for (int what = 0; what < counts.length; what++) {
            CHECK.due("count(" + what + ")", keys.count(what), counts[what]);
        }
        for (int what : new int[] {-1, 6, Integer.MIN_VALUE, Integer.MAX_VALUE}) {
            CHECK.due("count(" + what + ")", keys.count(what), -1);
        }
    }
}
