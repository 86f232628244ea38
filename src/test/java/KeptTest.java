/** Promises 27 to 29: keep, back, count. */
public final class KeptTest {
    private static final int NO = OnlyWhatIsLost.NO;
    private static final int FULL = OnlyWhatIsLost.FULL;
    private static final int NONE = OnlyWhatIsLost.NONE;

    public static void main(String[] args) {
        keeping();
        keptIsFull();
        goingBack();
        nothingToUndo();
        notGoingBack();
        counting();
        countingEnds();
        Due.end();
    }

    // ---- promise 27

    private static void keeping() {
        Due.says(27, "KEPT: how many.");
        OnlyWhatIsLost x = new OnlyWhatIsLost();
        Due.due("keep()", x.keep(), 1);
        Due.due("keep()", x.keep(), 2);
        Due.due("count(8)", x.count(8), 2);
        Due.says(27, "KEPT are YEAR, THINGS:");
        OnlyWhatIsLost y = Due.busy();
        y.keep();
        Due.due("what can be undone stays", y.count(7), 3);
        Due.due("what is seen stays", y.count(6), 2);
        y.undo();
        y.pass(3);
        y.forget();
        y.wipe();
        y.back();
        Due.due("the year", y.count(3), 1);
        Due.due("the things", y.count(1), 7);
        Due.due("what is seen is not kept", y.count(6), 0);
        Due.due("the text is not kept", y.count(9), 0);
    }

    private static void keptIsFull() {
        Due.says(27, "2 at most.");
        OnlyWhatIsLost x = Due.busy();
        Due.due("the second", x.keep(), 2);
        Due.says(27, "FULL.");
        Due.due("the third", x.keep(), FULL);
        Due.due("count(8)", x.count(8), 2);
        Due.idle("the third", KeptTest::keptTwice, OnlyWhatIsLost::keep, FULL);
        x.back();
        Due.due("room again", x.keep(), 2);
    }

    private static OnlyWhatIsLost keptTwice() {
        OnlyWhatIsLost x = Due.busy();
        x.keep();
        x.pass(2);
        x.burn(0);
        return x;
    }

    // ---- promise 28

    private static void goingBack() {
        Due.says(28, "As KEPT last (it is KEPT no more then): how many are left;");
        OnlyWhatIsLost x = new OnlyWhatIsLost();
        x.pass(1);
        x.keep();
        x.burn(2);
        x.build(0);
        x.keep();
        x.pass(5);
        x.seen(2);
        x.write('t');
        Due.due("back()", x.back(), 1);
        Due.due("count(8)", x.count(8), 1);
        Due.due("the year as kept last", x.count(3), 1);
        Due.due("F as kept last", x.thing(2, 2), 1);
        Due.due("the house as kept last", x.at(0), 6);
        Due.due("what is seen stays", x.count(6), 1);
        Due.due("the text stays", x.count(9), 1);
        x.burn(6);
        Due.due("back()", x.back(), 0);
        Due.due("no house", x.at(0), NONE);
        Due.due("F as told", x.thing(2, 2), 5);
        Due.due("count(8)", x.count(8), 0);
        OnlyWhatIsLost never = Due.laid("t0,0,99,0;");
        never.keep();
        never.burn(0);
        never.back();
        Due.due("99 again", never.thing(0, 2), 99);
        Due.due("never again", never.free(0, 199), 0);
    }

    private static void nothingToUndo() {
        Due.says(28, "nothing is UNDONE then.");
        OnlyWhatIsLost x = keptTwice();
        x.back();
        Due.due("count(7)", x.count(7), 0);
        Due.due("undo()", x.undo(), NO);
        Due.due("the year stays", x.count(3), 1);
        x.pass(4);
        Due.due("a new one can be", x.undo(), 0);
        Due.due("the year is as it was", x.count(3), 1);
    }

    private static void notGoingBack() {
        Due.says(28, "NO.");
        Due.idle("at first", OnlyWhatIsLost::new, OnlyWhatIsLost::back, NO);
        Due.idle("all is taken back", KeptTest::takenBack, OnlyWhatIsLost::back, NO);
        OnlyWhatIsLost laid = keptTwice();
        laid.wipe();
        Due.write(laid, "t0,0,1,0;");
        laid.lay();
        Due.due("laid anew", laid.back(), NO);
    }

    private static OnlyWhatIsLost takenBack() {
        OnlyWhatIsLost x = keptTwice();
        x.back();
        x.back();
        x.pass(2);
        return x;
    }

    // ---- promise 29

    private static void counting() {
        Due.says(29, "How many: 0 CELLS, 1 THINGS, 2 MAPS, 3 the YEAR, 4 that STAND, 5 LOST, 6 SEEN, 7 that can be UNDONE,"
            + " 8 KEPT, 9 letters of THE TEXT.");
        OnlyWhatIsLost x = Due.laid("r4,6;t1,0,2,0;t2,0,5,3;t3,7,8,0;m1,2,2;");
        x.pass(2);
        x.build(0);
        x.seen(1);
        x.seen(1);
        x.seen(2);
        x.keep();
        countsAre(x, 24, 4, 1, 2, 2, 1, 3, 2, 1, 39);
        x.burn(1);
        countsAre(x, 24, 4, 1, 2, 1, 2, 3, 3, 1, 39);
        Due.idle("count(0)", Due::busy, y -> y.count(0), 25);
        Due.says(29, "BAD.");
        Due.bad("count(_)", Due::busy, OnlyWhatIsLost::count, -1, 10);
    }

    private static void countingEnds() {
        Due.says(29, "How many: 0 CELLS, 1 THINGS, 2 MAPS, 3 the YEAR, 4 that STAND, 5 LOST,");
        countsAre(Due.laid("r2,2;t0,5,6,0;"), 4, 1, 0, 0, 0, 0, 0, 0, 0, 14);
        String text = "r8,8;t0,0,98,0;t1,0,98,0;t2,0,98,0;t3,0,98,0;t4,0,98,0;t5,0,98,0;t6,0,98,0;t7,0,98,0;"
            + "t8,0,98,0;t9,0,98,0;m0,2,2;m0,2,2;m0,2,2;m0,2,2;m0,2,2;";
        OnlyWhatIsLost x = Due.laidIn(97, text);
        countsAre(x, 64, 10, 5, 97, 10, 0, 0, 4, 0, text.length());
        x.pass(1);
        for (int k = 0; k < 12; k++) {
            x.seen(k);
        }
        x.keep();
        x.keep();
        Due.write(x, "z".repeat(200 - text.length()));
        countsAre(x, 64, 10, 5, 98, 0, 10, 12, 5, 2, 200);
        OnlyWhatIsLost y = Due.laid("t0,0,99,0;");
        for (int year = 0; year < 9; year++) {
            y.pass(1);
        }
        countsAre(y, 25, 1, 0, 9, 1, 0, 0, 8, 0, 10);
    }

    private static void countsAre(OnlyWhatIsLost x, int... counts) {
        for (int what = 0; what < counts.length; what++) {
            Due.due("count(" + what + ")", x.count(what), counts[what]);
        }
    }
}
