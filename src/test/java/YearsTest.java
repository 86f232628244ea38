/** Promises 11 to 14: pass, burn, build, undo. */
public final class YearsTest {
    private static final int BAD = OnlyWhatIsLost.BAD;
    private static final int NO = OnlyWhatIsLost.NO;
    private static final int FULL = OnlyWhatIsLost.FULL;
    private static final int NONE = OnlyWhatIsLost.NONE;

    public static void main(String[] args) {
        passing();
        notPassing();
        burning();
        notBurning();
        building();
        buildingTen();
        notBuilding();
        undoing();
        yearsAtOneTime();
        theLastEight();
        notUndoing();
        Due.end();
    }

    // ---- promise 11

    private static void passing() {
        Due.says(11, "n YEARS (1 to 30) go by: which it is.");
        OnlyWhatIsLost x = new OnlyWhatIsLost();
        Due.due("pass(1)", x.pass(1), 1);
        Due.due("pass(30)", x.pass(30), 31);
        Due.due("pass(29)", x.pass(29), 60);
        Due.due("count(3)", x.count(3), 60);
        Due.says(11, "A YEAR goes by;");
        OnlyWhatIsLost y = Due.laid("t0,0,1,0;t1,1,2,0;");
        y.pass(1);
        Due.due("one fell", y.thing(0, 5), 1);
        Due.due("one stands", y.thing(1, 4), 1);
        y.seen(3);
        y.keep();
        y.pass(1);
        Due.due("what is seen stays", y.count(6), 1);
        Due.due("what is kept stays", y.count(8), 1);
    }

    private static void notPassing() {
        Due.says(11, "BAD;");
        Due.bad("pass(_)", Due::busy, OnlyWhatIsLost::pass, 0, -1, -30, 31);
        Due.says(11, "NO: above 98.");
        Due.due("30 from 68 on", inYear(68).pass(30), 98);
        Due.idle("30 from 69 on", () -> inYear(69), x -> x.pass(30), NO);
        Due.due("1 from 97 on", inYear(97).pass(1), 98);
        Due.idle("2 from 97 on", () -> inYear(97), x -> x.pass(2), NO);
        Due.idle("1 from 98 on", () -> inYear(98), x -> x.pass(1), NO);
        Due.idle("30 from 98 on", () -> inYear(98), x -> x.pass(30), NO);
        Due.due("7 from 91 on", inYear(91).pass(7), 98);
        Due.due("8 from 91 on", inYear(91).pass(8), NO);
        Due.idle("BAD ahead of NO", () -> inYear(98), x -> x.pass(31), BAD);
        Due.idle("BAD ahead of NO", () -> inYear(98), x -> x.pass(0), BAD);
    }

    private static OnlyWhatIsLost inYear(int year) {
        OnlyWhatIsLost x = new OnlyWhatIsLost();
        Due.passTo(x, year);
        return x;
    }

    // ---- promise 12

    private static void burning() {
        Due.says(12, "A THING is BURNT: its KIND.");
        Due.due("a house", Due.laid("t0,0,9,0;").burn(0), 0);
        Due.due("a moved one", Due.laid("t0,0,9,2;").burn(0), 2);
        Due.due("a secret one", Due.laid("t0,0,9,3;").burn(0), 3);
        Due.says(12, "is BURNT: it falls this YEAR (F is this one);");
        OnlyWhatIsLost x = Due.laid("t0,0,9,0;t1,0,99,0;");
        x.burn(0);
        Due.due("F in year 0", x.thing(0, 2), 0);
        Due.due("B in year 0", x.thing(0, 1), 0);
        Due.due("it does not stand", x.thing(0, 4), 0);
        Due.due("it is lost", x.thing(0, 5), 1);
        Due.due("its cell is free", x.free(0, 0), 1);
        Due.due("the other one stands", x.thing(1, 4), 1);
        Due.passTo(x, 98);
        x.burn(1);
        Due.due("one that never falls, in 98", x.thing(1, 2), 98);
        Due.due("it is lost", x.thing(1, 5), 1);
        OnlyWhatIsLost y = new OnlyWhatIsLost();
        y.pass(3);
        y.build(0);
        Due.due("a built one in its year", y.burn(6), 0);
        Due.due("its F", y.thing(6, 2), 3);
        Due.due("its B", y.thing(6, 1), 3);
        Due.due("it is lost", y.thing(6, 5), 1);
        Due.due("it never stood", y.free(0, 3), 1);
    }

    private static void notBurning() {
        Due.says(12, "BAD;");
        Due.bad("burn(_)", Due::busy, OnlyWhatIsLost::burn, -1, 7);
        Due.says(12, "NO: it does not STAND,");
        String country = "t0,2,4,0;";
        Due.idle("ahead of B", () -> Due.laidIn(1, country), x -> x.burn(0), NO);
        Due.due("in B", Due.laidIn(2, country).burn(0), 0);
        Due.due("in the year ahead of F", Due.laidIn(3, country).burn(0), 0);
        Due.idle("in F", () -> Due.laidIn(4, country), x -> x.burn(0), NO);
        Due.idle("burnt already", Due::busy, x -> x.burn(2), NO);
        Due.says(12, "it is a WALL.");
        Due.idle("a wall that stands", () -> Due.laid("t0,0,9,1;"), x -> x.burn(0), NO);
        Due.idle("a wall that is lost", () -> Due.laidIn(9, "t0,0,9,1;"), x -> x.burn(0), NO);
        Due.says(12, "a THING that STANDS, but a WALL,");
        Due.due("a wall", new OnlyWhatIsLost().burn(5), NO);
        Due.due("a house", new OnlyWhatIsLost().burn(0), 0);
        Due.due("one that does not stand yet", new OnlyWhatIsLost().burn(3), NO);
    }

    // ---- promise 13

    private static void building() {
        Due.says(13, "A THING is BUILT: its number.");
        OnlyWhatIsLost x = new OnlyWhatIsLost();
        x.pass(5);
        Due.due("build(24)", x.build(24), 6);
        Due.due("build(0)", x.build(0), 7);
        Due.due("at(24)", x.at(24), 6);
        Due.says(13, "a HOUSE is BUILT at a CELL where no THING was told or built");
        Due.due("its kind", x.thing(6, 3), 0);
        Due.due("its cell", x.thing(6, 0), 24);
        Due.due("where a moved one is drawn", Due.laidIn(1, "t5,0,1,2;").build(6), 1);
        Due.due("the last cell of all", Due.laid("r8,8;t0,0,1,0;").build(63), 1);
        Due.says(13, "it stands from this YEAR on and never falls.");
        Due.due("B", x.thing(6, 1), 5);
        Due.due("F", x.thing(6, 2), 99);
        Due.due("it stands", x.thing(6, 4), 1);
        Due.due("free the year ahead", x.free(24, 4), 1);
        Due.due("not free this year", x.free(24, 5), 0);
        Due.due("not free in 199", x.free(24, 199), 0);
        Due.passTo(x, 98);
        Due.due("it stands in 98", x.thing(6, 4), 1);
        Due.due("built in 98", x.build(1), 8);
        Due.due("B 98", x.thing(8, 1), 98);
        Due.due("built in year 0", built(0).thing(6, 1), 0);
    }

    private static OnlyWhatIsLost built(int... cells) {
        OnlyWhatIsLost x = new OnlyWhatIsLost();
        for (int cell : cells) {
            x.build(cell);
        }
        return x;
    }

    private static void buildingTen() {
        Due.says(13, "(10 in all at most):");
        OnlyWhatIsLost x = built(0, 1, 2);
        Due.due("the tenth", x.build(4), 9);
        Due.due("ten", x.count(1), 10);
        Due.says(13, "FULL.");
        Due.idle("an eleventh", () -> built(0, 1, 2, 4), y -> y.build(5), FULL);
        String nine = "r3,4;t0,0,1,0;t1,0,1,0;t2,0,1,0;t3,0,1,0;t4,0,1,0;t5,0,1,0;t6,0,1,0;t7,0,1,0;t8,0,1,0;";
        Due.due("one behind nine that are told", Due.laid(nine).build(9), 9);
        Due.idle("one behind ten that are told", () -> Due.laid(nine + "t9,0,1,0;"), y -> y.build(10), FULL);
        Due.due("lost ones count, too", Due.laidIn(9, nine + "t9,0,1,0;").build(10), FULL);
        Due.due("BAD ahead of FULL", x.build(25), BAD);
        Due.due("BAD ahead of FULL", x.build(-1), BAD);
        Due.due("NO ahead of FULL", x.build(6), NO);
        x.undo();
        Due.due("room again", x.build(5), 9);
    }

    private static void notBuilding() {
        Due.says(13, "BAD;");
        Due.bad("build(_)", Due::busy, OnlyWhatIsLost::build, -1, 25);
        Due.says(13, "NO: there is or was one;");
        Due.idle("one stands", Due::busy, x -> x.build(18), NO);
        Due.idle("one is told for later", Due::busy, x -> x.build(17), NO);
        Due.idle("one is lost", () -> Due.laidIn(5, "t0,0,1,0;"), x -> x.build(0), NO);
        Due.idle("one is burnt", Due::busy, x -> x.build(12), NO);
        Due.idle("one is built", Due::busy, x -> x.build(0), NO);
        OnlyWhatIsLost x = built(0);
        x.burn(6);
        Due.due("one is built and burnt", x.build(0), NO);
        x.undo();
        x.undo();
        Due.due("it is undone", x.build(0), 6);
    }

    // ---- promise 14

    private static void undoing() {
        Due.says(14, "UNDONE: how many more can be.");
        OnlyWhatIsLost x = Due.busy();
        Due.due("undo()", x.undo(), 2);
        Due.due("undo()", x.undo(), 1);
        Due.due("undo()", x.undo(), 0);
        Due.says(14, "UNDONE is the latest YEARS gone by, BURNING, BUILDING");
        OnlyWhatIsLost y = Due.busy();
        y.undo();
        Due.due("no house", y.count(1), 6);
        Due.due("its cell has no thing", y.at(0), NONE);
        Due.due("one is burnt still", y.thing(2, 2), 1);
        y.undo();
        Due.due("F as it was", y.thing(2, 2), 5);
        Due.due("it stands", y.thing(2, 4), 1);
        Due.due("the year still", y.count(3), 1);
        y.undo();
        Due.due("the year as it was", y.count(3), 0);
        Due.due("what is seen is not undone", y.count(6), 2);
        Due.due("what is kept is not undone", y.count(8), 1);
        Due.due("the text is not undone", y.count(9), 10);
        y.back();
        Due.due("what is kept is as it was kept", y.thing(2, 2), 1);
        OnlyWhatIsLost z = Due.laidIn(3, "t0,0,99,0;");
        z.burn(0);
        z.undo();
        Due.due("99 again", z.thing(0, 2), 99);
        Due.due("never again", z.free(0, 199), 0);
    }

    private static void yearsAtOneTime() {
        Due.says(14, "(all that go by at one time are one;");
        OnlyWhatIsLost x = new OnlyWhatIsLost();
        x.pass(30);
        x.pass(2);
        Due.due("count(7)", x.count(7), 2);
        Due.due("undo()", x.undo(), 1);
        Due.due("2 years less", x.count(3), 30);
        Due.due("undo()", x.undo(), 0);
        Due.due("30 years less", x.count(3), 0);
    }

    private static void theLastEight() {
        Due.says(14, "the last 8 can be).");
        OnlyWhatIsLost x = new OnlyWhatIsLost();
        for (int year = 1; year <= 20; year++) {
            x.pass(1);
            Due.due("count(7) after " + year, x.count(7), Math.min(year, 8));
        }
        for (int left = 7; left >= 0; left--) {
            Due.due("undo()", x.undo(), left);
            Due.due("year", x.count(3), 12 + left);
        }
        Due.due("not the ninth", x.undo(), NO);
        Due.due("year 12 stays", x.count(3), 12);
        x.pass(1);
        Due.due("a new one", x.undo(), 0);
        OnlyWhatIsLost eight = years(8);
        Due.due("of eight the eighth", undoAll(eight), 8);
        Due.due("year 0", eight.count(3), 0);
        OnlyWhatIsLost nine = years(9);
        Due.due("of nine eight", undoAll(nine), 8);
        Due.due("year 1", nine.count(3), 1);
        OnlyWhatIsLost mixed = years(10);
        mixed.undo();
        mixed.undo();
        mixed.build(6);
        mixed.burn(2);
        mixed.burn(6);
        Due.due("eight again", mixed.count(7), 8);
        Due.due("all eight", undoAll(mixed), 8);
        Due.due("year 3", mixed.count(3), 3);
        Due.due("no house", mixed.count(1), 6);
    }

    private static OnlyWhatIsLost years(int years) {
        OnlyWhatIsLost x = Due.laid("t0,0,99,0;t1,0,99,0;t2,0,99,0;t3,0,99,0;t4,0,99,0;t5,0,99,0;");
        for (int year = 0; year < years; year++) {
            x.pass(1);
        }
        return x;
    }

    private static int undoAll(OnlyWhatIsLost x) {
        int undone = 0;
        for (int turn = 0; turn < 20 && x.undo() != NO; turn++) {
            undone++;
        }
        return undone;
    }

    private static void notUndoing() {
        Due.says(14, "NO.");
        Due.idle("at first", OnlyWhatIsLost::new, OnlyWhatIsLost::undo, NO);
        Due.idle("all is undone", YearsTest::allUndone, OnlyWhatIsLost::undo, NO);
        OnlyWhatIsLost x = new OnlyWhatIsLost();
        x.pass(31);
        x.burn(5);
        x.build(6);
        x.seen(3);
        x.keep();
        x.write('t');
        Due.due("what is refused, SEEN, KEPT, written is not undone", x.undo(), NO);
        OnlyWhatIsLost laid = Due.busy();
        laid.wipe();
        Due.write(laid, "t0,0,1,0;");
        laid.lay();
        Due.due("laid anew", laid.undo(), NO);
        OnlyWhatIsLost back = Due.busy();
        back.back();
        Due.due("gone back", back.undo(), NO);
    }

    private static OnlyWhatIsLost allUndone() {
        OnlyWhatIsLost x = Due.busy();
        undoAll(x);
        return x;
    }
}
