/** Promises 8 to 13: what is done, and undone. */
final class DeedsTest {
    private static final Check CHECK = new Check("DeedsTest");
    private static final int[] WRONG = {-1, Integer.MIN_VALUE, Integer.MAX_VALUE};

    public static void main(String[] args) {
        goes();
        colds();
        props();
        years();
        michaelmas();
        undo();
        undoKnowsTen();
        undoLeavesTheRest();
        CHECK.end();
    }

    private static void goes() {
        ChoristerKeys keys = CHECK.told("n3;d0 1 20;d2 1 24;d0 1 9;b20 24 8 9 0;b24 30 8 9 1;");
        CHECK.due("through", keys.goes(0, 0), 1);
        CHECK.due("the other way through a door told so", keys.goes(0, 1), 2);
        CHECK.due("not there", keys.goes(0, 0), -2);
        CHECK.due("not opened", keys.goes(1, 0), -2);
        CHECK.due("not there, not opened", keys.goes(0, 2), -2);
        CHECK.due("two deeds", keys.now(4), 2);
        CHECK.due("back through it", keys.goes(0, 1), 1);
        keys.props(2, 1);
        CHECK.due("propped", keys.goes(1, 2), 0);
        for (int wrong : WRONG) {
            CHECK.due("goes(" + wrong + ", 0)", keys.goes(wrong, 0), -1);
            CHECK.due("goes(0, " + wrong + ")", keys.goes(0, wrong), -1);
        }
        CHECK.due("no such boy", keys.goes(2, 0), -1);
        CHECK.due("no such door", keys.goes(0, 3), -1);
        CHECK.due("place", keys.boy(1, 5), 0);
        CHECK.due("deeds", keys.now(4), 5);
    }

    private static void colds() {
        ChoristerKeys keys = CHECK.told("b20 24 8 9 0;b24 30 8 9 1;");
        CHECK.due("from nothing", keys.colds(0, 9), 0);
        CHECK.due("from 9", keys.colds(0, 4), 9);
        CHECK.due("it is so", keys.colds(0, 4), -2);
        CHECK.due("it is so", keys.colds(1, 0), -2);
        CHECK.due("well again", keys.colds(0, 0), 4);
        CHECK.due("the other has none", keys.boy(1, 6), 0);
        CHECK.due("too much", keys.colds(0, 10), -1);
        CHECK.due("no such boy", keys.colds(2, 0), -1);
        for (int wrong : WRONG) {
            CHECK.due("colds(0, " + wrong + ")", keys.colds(0, wrong), -1);
            CHECK.due("colds(" + wrong + ", 0)", keys.colds(wrong, 0), -1);
        }
        CHECK.due("deeds", keys.now(4), 3);
    }

    private static void props() {
        ChoristerKeys keys = CHECK.told("d0 1 1;d0 1 2;d0 1 3;");
        CHECK.due("one", keys.props(2, 1), 1);
        CHECK.due("two", keys.props(0, 1), 2);
        CHECK.due("it is so", keys.props(0, 1), -2);
        CHECK.due("it is so", keys.props(1, 0), -2);
        CHECK.due("let go", keys.props(2, 0), 1);
        CHECK.due("which", keys.now(1), 1);
        CHECK.due("is 2", keys.props(0, 2), -1);
        CHECK.due("no such door", keys.props(3, 0), -1);
        for (int wrong : WRONG) {
            CHECK.due("props(0, " + wrong + ")", keys.props(0, wrong), -1);
            CHECK.due("props(" + wrong + ", 1)", keys.props(wrong, 1), -1);
        }
        CHECK.due("deeds", keys.now(4), 3);
    }

    private static void years() {
        ChoristerKeys keys = CHECK.told("b20 24 8 9 0;b24 30 7 9 1;b24 30 8 9 1;b24 30 9 9 1;b24 30 20 7 1;");
        keys.colds(0, 2);
        CHECK.due("two voices break", keys.year(), 2);
        CHECK.due("the cold is gone", keys.boy(0, 6), 0);
        CHECK.due("age", keys.boy(0, 2), 9);
        CHECK.due("age above 20", keys.boy(4, 2), 21);
        CHECK.due("one voice breaks", keys.year(), 1);
        CHECK.due("none breaks", keys.year(), 0);
        for (int i = 4; i <= 99; i++) {
            CHECK.due("year " + i, keys.year(), 0);
        }
        CHECK.due("year", keys.now(0), 99);
        CHECK.due("it is 99", keys.year(), -2);
        CHECK.due("still", keys.now(0), 99);
        CHECK.due("age", keys.boy(4, 2), 119);
        keys.undo();
        CHECK.due("98", keys.now(0), 98);
        CHECK.due("99 again", keys.year(), 0);
        ChoristerKeys empty = new ChoristerKeys();
        CHECK.due("nobody there", empty.year(), 0);
        CHECK.due("a year all the same", empty.now(0), 1);
    }

    private static void michaelmas() {
        ChoristerKeys keys = CHECK.told("d0 1 1;d0 1 38;d0 1 40;b5 6 8 20 0;b2 3 8 20 0;");
        CHECK.due("one is opened by nobody", keys.michaelmas(), 1);
        CHECK.due("5 more", keys.door(0, 2), 6);
        CHECK.due("left over by 41", keys.door(1, 2), 2);
        CHECK.due("left over by 41", keys.door(2, 2), 4);
        keys.props(2, 1);
        CHECK.due("propped is opened", keys.michaelmas(), 2);
        ChoristerKeys still = CHECK.told("d0 1 36;d0 1 1;s0;");
        CHECK.due("no boys", still.michaelmas(), 2);
        CHECK.due("no step", still.door(0, 2), 36);
        CHECK.due("a deed all the same", still.now(4), 1);
        still.props(0, 1);
        CHECK.due("propped, but there is nobody", still.michaelmas(), 2);
        ChoristerKeys brim = CHECK.told("d0 1 36;d0 1 1;s40;");
        brim.michaelmas();
        CHECK.due("one less", brim.door(0, 2), 35);
        CHECK.due("one less", brim.door(1, 2), 0);
        brim.michaelmas();
        CHECK.due("around", brim.door(1, 2), 40);
        ChoristerKeys five = CHECK.told("d0 1 36;");
        five.michaelmas();
        CHECK.due("41 is 0", five.door(0, 2), 0);
        CHECK.due("no doors", new ChoristerKeys().michaelmas(), 0);
    }

    private static void undo() {
        ChoristerKeys keys = CHECK.told("n3;d0 1 20;d1 2 40;b20 24 8 9 0;b0 1 8 9 2;");
        CHECK.due("nothing yet", keys.undo(), -2);
        keys.goes(0, 0);
        keys.colds(0, 3);
        keys.props(1, 1);
        keys.year();
        keys.michaelmas();
        CHECK.due("refused ones do not count", keys.goes(0, 0), -2);
        CHECK.due("refused ones do not count", keys.props(1, 1), -2);
        CHECK.due("pitch", keys.door(1, 2), 4);
        CHECK.due("michaelmas undone", keys.undo(), 4);
        CHECK.due("pitch", keys.door(1, 2), 40);
        CHECK.due("year undone", keys.undo(), 3);
        CHECK.due("year", keys.now(0), 0);
        CHECK.due("age", keys.boy(1, 2), 8);
        CHECK.due("the cold is back", keys.boy(0, 6), 3);
        CHECK.due("still propped", keys.now(1), 2);
        CHECK.due("props undone", keys.undo(), 2);
        CHECK.due("let go", keys.now(1), 0);
        CHECK.due("cold undone", keys.undo(), 1);
        CHECK.due("well", keys.boy(0, 6), 0);
        CHECK.due("still out", keys.boy(0, 5), 1);
        CHECK.due("going undone", keys.undo(), 0);
        CHECK.due("at home", keys.boy(0, 5), 0);
        CHECK.due("none left", keys.undo(), -2);
    }

    private static void undoKnowsTen() {
        ChoristerKeys keys = CHECK.told("b20 24 8 9 0;");
        for (int i = 1; i <= 13; i++) {
            keys.year();
        }
        for (int left = 9; left >= 4; left--) {
            CHECK.due("undo()", keys.undo(), left);
        }
        keys.colds(0, 1);
        CHECK.due("five", keys.now(4), 5);
        for (int left = 4; left >= 0; left--) {
            CHECK.due("undo()", keys.undo(), left);
        }
        CHECK.due("older ones are lost", keys.undo(), -2);
        CHECK.due("year", keys.now(0), 3);
        CHECK.due("age", keys.boy(0, 2), 11);
    }

    private static void undoLeavesTheRest() {
        ChoristerKeys keys = CHECK.told("d0 1 20;b20 24 8 9 0;");
        keys.year();
        keys.hears(0, 1);
        keys.keep(0);
        keys.rate(0, 0);
        keys.type('x');
        keys.undo();
        CHECK.due("heard", keys.count(4), 1);
        CHECK.due("trace", keys.trace(), 1);
        CHECK.due("text", keys.count(5), 1);
        CHECK.due("image", keys.back(0), 1);
    }
}
