/** Promises 19 to 22: who went by. */
final class HeardTest {
    private static final Check CHECK = new Check("HeardTest");
    private static final int[] WRONG = {-1, 2, Integer.MIN_VALUE, Integer.MAX_VALUE};
    private static final String CITY = "d0 1 10;d0 1 20;b10 10 7 9 0;b10 20 7 20 0;b20 20 7 20 0;b30 32 7 8 0;";

    public static void main(String[] args) {
        hearing();
        whoItIs();
        asking();
        CHECK.end();
    }

    private static void hearing() {
        ChoristerKeys keys = CHECK.told(CITY);
        CHECK.due("nothing to forget", keys.forget(), 0);
        for (int i = 1; i <= 6; i++) {
            CHECK.due("hears(1, 0)", keys.hears(1, 0), i);
        }
        CHECK.due("full", keys.hears(1, 0), -3);
        CHECK.due("BAD ahead of FULL", keys.hears(2, 0), -1);
        CHECK.due("still six", keys.count(4), 6);
        CHECK.due("forgotten", keys.forget(), 6);
        CHECK.due("nothing", keys.count(4), 0);
        CHECK.due("all again", keys.who(), 15);
        for (int wrong : WRONG) {
            CHECK.due("hears(" + wrong + ", 0)", keys.hears(wrong, 0), -1);
            CHECK.due("hears(0, " + wrong + ")", keys.hears(0, wrong), -1);
        }
        CHECK.due("hearing is no deed", keys.now(4), 0);
    }

    private static void whoItIs() {
        ChoristerKeys keys = CHECK.told(CITY);
        CHECK.due("nothing heard", keys.who(), 15);
        keys.hears(0, 1);
        CHECK.due("opened", keys.who(), 3);
        keys.hears(1, 0);
        CHECK.due("and did not", keys.who(), 1);
        keys.colds(0, 1);
        CHECK.due("just as he is now", keys.who(), 0);
        keys.undo();
        CHECK.due("and is again", keys.who(), 1);
        keys.props(1, 1);
        CHECK.due("propped, all open it", keys.who(), 0);
        keys.props(1, 0);
        keys.hears(0, 0);
        CHECK.due("both ways: nobody", keys.who(), 0);
        CHECK.due("nobody there", new ChoristerKeys().who(), 0);
        ChoristerKeys shut = CHECK.told(CITY);
        shut.hears(0, 0);
        CHECK.due("did not open", shut.who(), 12);
        shut.keep(0);
        shut.back(0);
        CHECK.due("back() forgets nothing", shut.who(), 12);
    }

    private static void asking() {
        ChoristerKeys keys = CHECK.told(CITY);
        CHECK.due("of several the lowest", keys.ask(), 0);
        keys.colds(1, 9);
        CHECK.due("just as they are now", keys.ask(), 0);
        keys.undo();
        keys.hears(0, 1);
        CHECK.due("the other parts them", keys.ask(), 1);
        keys.hears(1, 1);
        CHECK.due("one is left", keys.ask(), -9);
        keys.hears(0, 0);
        CHECK.due("none is left", keys.ask(), -9);
        keys.forget();
        keys.hears(0, 0);
        CHECK.due("of two one", keys.ask(), 1);
        keys.forget();
        keys.props(0, 1);
        CHECK.due("a propped door tells nothing", keys.ask(), 1);
        CHECK.due("no doors", CHECK.told("b0 1 7 8 0;b0 1 7 8 0;").ask(), -9);
        CHECK.due("no boys", CHECK.told("d0 1 7;").ask(), -9);
        CHECK.due("one boy", CHECK.told("d0 1 7;b0 7 7 8 0;").ask(), -9);
        CHECK.due("no door parts them: the lowest", CHECK.told("d0 1 7;d0 1 5;b0 7 7 8 0;b0 7 7 8 0;").ask(), 0);
        CHECK.due("the greater part counts",
            CHECK.told("d0 1 1;d0 1 2;d0 1 3;b1 1 7 8 0;b2 2 7 8 0;b2 3 7 8 0;b3 3 7 8 0;b30 30 7 8 0;").ask(), 1);
        CHECK.due("most open it, and still",
            CHECK.told("d0 1 1;d0 1 2;b1 2 7 8 0;b1 2 7 8 0;b1 1 7 8 0;b1 1 7 8 0;").ask(), 1);
    }
}
