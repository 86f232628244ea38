/** Promises 11 to 14: pass, burn, build, undo. */
public final class YearsTest {
    private static final int BAD = OnlyWhatIsLost.BAD;
    private static final int NO = OnlyWhatIsLost.NO;
    private static final int FULL = OnlyWhatIsLost.FULL;

    public static void main(String[] args) {
        passing();
        burning();
        building();
        undoing();
        undoingTheLastEight();
        Due.end();
    }

    private static void passing() {
        OnlyWhatIsLost x = new OnlyWhatIsLost();
        Due.due("11: pass(0)", x.pass(0), BAD);
        Due.due("11: pass(31)", x.pass(31), BAD);
        Due.due("11: pass(-1)", x.pass(-1), BAD);
        Due.due("11: pass(1)", x.pass(1), 1);
        Due.due("11: pass(30)", x.pass(30), 31);
        Due.due("11: pass(30)", x.pass(30), 61);
        Due.due("11: pass(30)", x.pass(30), 91);
        Due.due("11: above 98", x.pass(8), NO);
        Due.due("11: BAD ahead of NO", x.pass(31), BAD);
        Due.due("11: nothing changed", x.count(3), 91);
        Due.due("11: to 98", x.pass(7), 98);
        Due.due("11: not on", x.pass(1), NO);
        Due.due("11: only what went by can be undone", x.count(7), 5);
    }

    private static void burning() {
        OnlyWhatIsLost x = new OnlyWhatIsLost();
        Due.due("12: burn(-1)", x.burn(-1), BAD);
        Due.due("12: burn(6)", x.burn(6), BAD);
        Due.due("12: a wall", x.burn(5), NO);
        Due.due("12: not yet built", x.burn(3), NO);
        Due.due("12: nothing to undo", x.count(7), 0);
        Due.due("12: a secret one", x.burn(4), 3);
        Due.due("12: burnt already", x.burn(4), NO);
        x.pass(2);
        Due.due("12: a moved one", x.burn(3), 2);
        Due.due("12: a house", x.burn(2), 0);
        Due.due("12: its F", x.thing(2, 2), 2);
        x.pass(1);
        Due.due("12: fallen by itself", x.burn(0), NO);
        x.build(0);
        Due.due("12: a built one in its year", x.burn(6), 0);
        Due.due("12: its F", x.thing(6, 2), 3);
        Due.due("12: its B", x.thing(6, 1), 3);
        Due.due("12: it is lost", x.thing(6, 5), 1);
        OnlyWhatIsLost y = Due.laid("t0,0,99,0;");
        y.pass(5);
        Due.due("12: one that never falls", y.burn(0), 0);
        Due.due("12: its F", y.thing(0, 2), 5);
    }

    private static void building() {
        OnlyWhatIsLost x = new OnlyWhatIsLost();
        x.pass(5);
        Due.due("13: build(-1)", x.build(-1), BAD);
        Due.due("13: build(25)", x.build(25), BAD);
        Due.due("13: there is one", x.build(18), NO);
        Due.due("13: there was one", x.build(6), NO);
        Due.due("13: nothing to undo but years", x.count(7), 1);
        Due.due("13: build(24)", x.build(24), 6);
        int[] told = {24, 5, 99, 0, 1, 0};
        for (int what = 0; what < told.length; what++) {
            Due.due("13: thing(6, " + what + ")", x.thing(6, what), told[what]);
        }
        Due.due("13: built there", x.build(24), NO);
        x.burn(6);
        Due.due("13: built and burnt there", x.build(24), NO);
        Due.due("13: build(0)", x.build(0), 7);
        Due.due("13: build(1)", x.build(1), 8);
        Due.due("13: build(2)", x.build(2), 9);
        Due.due("13: an eleventh", x.build(4), FULL);
        Due.due("13: NO ahead of FULL", x.build(6), NO);
        Due.due("13: BAD ahead of FULL", x.build(25), BAD);
        Due.due("13: ten", x.count(1), 10);
        x.undo();
        Due.due("13: undone, so there is none", x.build(2), 9);
        OnlyWhatIsLost y = Due.laid("t0,9,10,0;");
        Due.due("13: one is told for later", y.build(0), NO);
    }

    private static void undoing() {
        OnlyWhatIsLost x = new OnlyWhatIsLost();
        Due.due("14: nothing yet", x.undo(), NO);
        x.pass(30);
        x.undo();
        Due.due("14: all years at one time are one", x.count(3), 0);
        x.pass(1);
        x.burn(2);
        x.build(0);
        x.seen(3);
        x.keep();
        Due.due("14: what can be undone", x.count(7), 3);
        Due.due("14: undo()", x.undo(), 2);
        Due.due("14: no house", x.count(1), 6);
        Due.due("14: undo()", x.undo(), 1);
        Due.due("14: F as it was", x.thing(2, 2), 5);
        Due.due("14: the year still", x.count(3), 1);
        Due.due("14: undo()", x.undo(), 0);
        Due.due("14: the year as it was", x.count(3), 0);
        Due.due("14: no more", x.undo(), NO);
        Due.due("14: SEEN is not undone", x.count(6), 1);
        Due.due("14: KEPT is not undone", x.count(8), 1);
        OnlyWhatIsLost y = Due.laid("t0,0,99,0;");
        y.pass(3);
        y.burn(0);
        y.undo();
        Due.due("14: never again", y.free(0, 199), 0);
        Due.due("14: 99 again", y.thing(0, 2), 99);
    }

    private static void undoingTheLastEight() {
        OnlyWhatIsLost x = new OnlyWhatIsLost();
        for (int year = 1; year <= 20; year++) {
            x.pass(1);
            Due.due("14: after " + year, x.count(7), Math.min(year, 8));
        }
        for (int left = 7; left >= 0; left--) {
            Due.due("14: left", x.undo(), left);
            Due.due("14: year", x.count(3), 12 + left);
        }
        Due.due("14: not the ninth", x.undo(), NO);
        Due.due("14: year 12 stays", x.count(3), 12);
        x.pass(1);
        Due.due("14: a new one", x.undo(), 0);
    }
}
