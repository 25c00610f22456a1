/** Promises 23 to 25 and 27: kinds, images, THE TRACE. */
final class KindsTest {
    private static final Check CHECK = new Check("KindsTest");
    private static final int[] WRONG = {-1, 6, Integer.MIN_VALUE, Integer.MAX_VALUE};
    private static final int NO = -1000000;
    private static final String CITY = "n3;d0 1 10;d1 2 20;d0 2 22;b10 20 8 9 0;b10 20 9 12 2;";

    public static void main(String[] args) {
        rates();
        traces();
        imagesKeepNow();
        imagesKeepNothingElse();
        refusals();
        CHECK.end();
    }

    private static void rates() {
        ChoristerKeys keys = CHECK.told(CITY);
        int[] first = {8, 28, 6, 56, 6, 8};
        int[] second = {9, 29, 7, 58, 8, 11};
        for (int kind = 0; kind < first.length; kind++) {
            CHECK.due("rate(" + kind + ", 0)", keys.rate(kind, 0), first[kind]);
            CHECK.due("rate(" + kind + ", 1)", keys.rate(kind, 1), second[kind]);
        }
        keys.colds(1, 5);
        CHECK.due("a cold", keys.rate(1, 1), 24);
        CHECK.due("a cold", keys.rate(2, 1), 8);
        keys.goes(0, 0);
        CHECK.due("the place", keys.rate(5, 0), 9);
        keys.year();
        CHECK.due("broken", keys.rate(1, 0), 17);
        CHECK.due("opens none", keys.rate(4, 0), 9);
        keys.props(2, 1);
        CHECK.due("propped", keys.rate(2, 0), 8);
        ChoristerKeys low = CHECK.told("b0 0 7 7 0;");
        low.colds(0, 9);
        CHECK.due("below 0", low.rate(3, 0), -28);
    }

    private static void traces() {
        ChoristerKeys keys = CHECK.told(CITY);
        long[] added = {1, 11, 101, 1011, 10101, 100001};
        long want = 0;
        for (int kind = 0; kind < added.length; kind++) {
            keys.rate(kind, 1);
            want += added[kind];
            CHECK.due("trace() behind " + kind, keys.trace(), want);
        }
        CHECK.due("no such kind", keys.rate(6, 0), NO);
        CHECK.due("no such boy", keys.rate(0, 2), NO);
        CHECK.due("refused: no trace", keys.trace(), want);
        keys.year();
        keys.undo();
        CHECK.due("goes on behind undo()", keys.trace(), want);
        keys.keep(0);
        keys.rate(0, 0);
        keys.back(0);
        CHECK.due("goes on behind back()", keys.trace(), want + 1);
        keys.city();
        CHECK.due("goes on behind city()", keys.trace(), want + 1);
        CHECK.due("boy() leaves no trace", new ChoristerKeys().trace(), 0);
    }

    private static void imagesKeepNow() {
        ChoristerKeys keys = CHECK.told(CITY);
        keys.year();
        keys.goes(1, 1);
        keys.colds(1, 2);
        keys.props(2, 1);
        CHECK.due("keep(0)", keys.keep(0), 1);
        CHECK.due("keeping changes no deeds", keys.now(4), 4);
        keys.year();
        keys.michaelmas();
        keys.props(2, 0);
        keys.props(0, 1);
        keys.goes(0, 0);
        CHECK.due("keep(1)", keys.keep(1), 2);
        CHECK.due("back(0)", keys.back(0), 1);
        int[] boy = {10, 18, 10, 12, 2, 1, 2};
        for (int what = 0; what < boy.length; what++) {
            CHECK.due("boy(1, " + what + ")", keys.boy(1, what), boy[what]);
        }
        CHECK.due("pitch", keys.door(0, 2), 10);
        CHECK.due("propped", keys.now(1), 4);
        CHECK.due("year", keys.now(0), 1);
        CHECK.due("nothing can be undone", keys.now(4), 0);
        CHECK.due("nothing can be undone", keys.undo(), -2);
        CHECK.due("back(1)", keys.back(1), 2);
        CHECK.due("pitch", keys.door(0, 2), 15);
        CHECK.due("propped", keys.now(1), 1);
        CHECK.due("place", keys.boy(0, 5), 1);
        keys.year();
        CHECK.due("what comes then can be undone", keys.undo(), 0);
        CHECK.due("an image stays", keys.back(0), 1);
        keys.year();
        CHECK.due("an image is kept as it was", keys.back(0), 1);
        keys.year();
        CHECK.due("kept anew", keys.keep(0), 2);
        CHECK.due("kept anew", keys.back(0), 2);
    }

    private static void imagesKeepNothingElse() {
        ChoristerKeys keys = CHECK.told(CITY);
        keys.keep(1);
        keys.hears(0, 1);
        keys.type('x');
        keys.back(1);
        CHECK.due("heard", keys.count(4), 1);
        CHECK.due("text", keys.count(5), 1);
    }

    private static void refusals() {
        ChoristerKeys keys = CHECK.told(CITY);
        CHECK.due("none was kept", keys.back(0), -2);
        keys.keep(0);
        CHECK.due("the other was not", keys.back(1), -2);
        CHECK.due("no such image", keys.keep(2), -1);
        CHECK.due("no such image", keys.back(2), -1);
        for (int wrong : WRONG) {
            CHECK.due("keep(" + wrong + ")", keys.keep(wrong), -1);
            CHECK.due("back(" + wrong + ")", keys.back(wrong), -1);
            CHECK.due("rate(" + wrong + ", 0)", keys.rate(wrong, 0), NO);
        }
        for (int b : new int[] {-1, 2, Integer.MIN_VALUE, Integer.MAX_VALUE}) {
            CHECK.due("rate(0, " + b + ")", keys.rate(0, b), NO);
        }
        keys.year();
        keys.back(1);
        CHECK.due("a refused back() leaves the deeds", keys.now(4), 1);
    }
}
