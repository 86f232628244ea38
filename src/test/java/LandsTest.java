/** Promises 6 to 10: thing, at, free, map, shows. */
public final class LandsTest {
    private static final int BAD = OnlyWhatIsLost.BAD;
    private static final int NONE = OnlyWhatIsLost.NONE;

    public static void main(String[] args) {
        whatIsToldOfThings();
        standingAndLost();
        neverLost();
        thingsThatAreNot();
        thingsAtCells();
        freeCells();
        freeOnes();
        whatIsToldOfMaps();
        mapsThatAreNot();
        shownCells();
        drawnLost();
        drawnMoved();
        hands();
        outside();
        knownNow();
        Due.end();
    }

    // ---- promise 6

    private static void whatIsToldOfThings() {
        Due.says(6, "Of a THING: CELL (what = 0), B (1), F (2), KIND (3),");
        OnlyWhatIsLost x = Due.laid("r8,8;t63,0,1,3;t0,98,99,2;t7,97,98,1;t8,0,99,0;");
        int[][] told = {{63, 0, 1, 3}, {0, 98, 99, 2}, {7, 97, 98, 1}, {8, 0, 99, 0}};
        for (int t = 0; t < told.length; t++) {
            for (int what = 0; what < 4; what++) {
                Due.due("thing(" + t + ", " + what + ")", x.thing(t, what), told[t][what]);
            }
        }
        OnlyWhatIsLost burnt = Due.busy();
        Due.due("F of one that is burnt", burnt.thing(2, 2), 1);
        Due.due("its B", burnt.thing(2, 1), 0);
        Due.due("B of one that is built", burnt.thing(6, 1), 1);
        Due.due("its F", burnt.thing(6, 2), 99);
    }

    private static void standingAndLost() {
        Due.says(6, "1 if it STANDS (4), 1 if it is LOST (5).");
        OnlyWhatIsLost x = new OnlyWhatIsLost();
        for (int year = 0; year <= 5; year++) {
            Due.due("thing(3, 4) in " + year, x.thing(3, 4), year == 2 || year == 3 ? 1 : 0);
            Due.due("thing(3, 5) in " + year, x.thing(3, 5), year >= 4 ? 1 : 0);
            x.pass(1);
        }
        Due.says(6, "A THING STANDS in YEARS from B to F less 1;");
        Due.due("year 0, B 0", Due.laid("t0,0,1,0;").thing(0, 4), 1);
        Due.due("year 1, F 1", Due.laidIn(1, "t0,0,1,0;").thing(0, 4), 0);
        Due.due("year 96, B 97", Due.laidIn(96, "t0,97,98,0;").thing(0, 4), 0);
        Due.due("year 97, B 97", Due.laidIn(97, "t0,97,98,0;").thing(0, 4), 1);
        Due.due("year 98, F 98", Due.laidIn(98, "t0,97,98,0;").thing(0, 4), 0);
        Due.due("year 98, B 98", Due.laidIn(98, "t0,98,99,0;").thing(0, 4), 1);
        Due.says(6, "which stands from YEAR B on, till it falls in YEAR F");
        Due.due("year 97, F 98", Due.laidIn(97, "t0,0,98,0;").thing(0, 4), 1);
        Due.due("year 98, F 98", Due.laidIn(98, "t0,0,98,0;").thing(0, 4), 0);
        Due.says(6, "from F on it is LOST (one told so never).");
        Due.due("year 0, F 1", Due.laid("t0,0,1,0;").thing(0, 5), 0);
        Due.due("year 1, F 1", Due.laidIn(1, "t0,0,1,0;").thing(0, 5), 1);
        Due.due("year 97, F 98", Due.laidIn(97, "t0,0,98,0;").thing(0, 5), 0);
        Due.due("year 98, F 98", Due.laidIn(98, "t0,0,98,0;").thing(0, 5), 1);
        Due.due("ahead of B", Due.laid("t0,5,6,0;").thing(0, 5), 0);
        Due.due("year 98, F 99", Due.laidIn(98, "t0,0,99,0;").thing(0, 5), 0);
        for (int kind = 0; kind <= 3; kind++) {
            Due.due("kind " + kind + " is lost", Due.laidIn(3, "t0,0,3," + kind + ";").thing(0, 5), 1);
        }
        OnlyWhatIsLost burnt = Due.laid("t0,0,99,0;");
        burnt.burn(0);
        Due.due("burnt in its first year: it does not stand", burnt.thing(0, 4), 0);
        Due.due("burnt in its first year: it is lost", burnt.thing(0, 5), 1);
    }

    private static void neverLost() {
        Due.says(6, "99, as told, is never),");
        Due.due("99 is told back", Due.laid("t0,0,99,0;").thing(0, 2), 99);
        OnlyWhatIsLost x = Due.laidIn(98, "t0,0,99,0;t1,0,98,0;");
        Due.due("it stands in 98", x.thing(0, 4), 1);
        Due.due("another one does not", x.thing(1, 4), 0);
        x.burn(0);
        Due.due("burnt in 98", x.thing(0, 2), 98);
        Due.due("and lost", x.thing(0, 5), 1);
        x.undo();
        Due.due("never again", x.thing(0, 2), 99);
    }

    private static void thingsThatAreNot() {
        Due.says(6, "BAD.");
        Due.bad("thing(_, 0)", Due::busy, (x, t) -> x.thing(t, 0), -1, 7);
        Due.bad("thing(0, _)", Due::busy, (x, what) -> x.thing(0, what), -1, 6);
        Due.due("both", Due.busy().thing(-1, -1), BAD);
        Due.says(6, "BAD: a number is none that is told (CELLS, THINGS, MAPS: such as there are).");
        OnlyWhatIsLost x = new OnlyWhatIsLost();
        Due.due("not built yet", x.thing(6, 0), BAD);
        x.build(0);
        Due.due("built", x.thing(6, 0), 0);
        x.undo();
        Due.due("undone", x.thing(6, 0), BAD);
        OnlyWhatIsLost ten = Due.laid("r2,5;t0,0,1,0;t1,0,1,0;t2,0,1,0;t3,0,1,0;t4,0,1,0;"
            + "t5,0,1,0;t6,0,1,0;t7,0,1,0;t8,0,1,0;t9,0,1,0;");
        Due.due("the tenth", ten.thing(9, 0), 9);
        Due.due("none behind it", ten.thing(10, 0), BAD);
        OnlyWhatIsLost fewer = Due.laid("t0,0,1,0;");
        Due.due("none of the land ahead of it", fewer.thing(1, 0), BAD);
    }

    // ---- promise 7

    private static void thingsAtCells() {
        Due.says(7, "The THING of a CELL, built or not yet, LOST or not.");
        OnlyWhatIsLost x = new OnlyWhatIsLost();
        Due.due("at(6), the first thing", x.at(6), 0);
        Due.due("at(3), the last thing", x.at(3), 5);
        Due.due("at(17), not yet built", x.at(17), 3);
        x.pass(30);
        Due.due("at(6), lost", x.at(6), 0);
        x.build(24);
        Due.due("at(24), built", x.at(24), 6);
        x.burn(6);
        Due.due("at(24), burnt", x.at(24), 6);
        Due.due("the last cell of all", Due.laid("r8,8;t63,0,1,0;").at(63), 0);
        Due.due("the first cell", Due.laid("r8,8;t63,0,1,0;t0,0,1,0;").at(0), 1);
        Due.due("a moved one is at its own cell", Due.laidIn(1, "t5,0,1,2;").at(5), 0);
        Due.says(7, "NONE;");
        Due.due("at(24), undone", afterUndo(x).at(24), NONE);
        Due.idle("at(24)", Due::busy, y -> y.at(24), NONE);
        Due.due("not where a moved one is drawn", Due.laidIn(1, "t5,0,1,2;").at(6), NONE);
        Due.says(7, "BAD.");
        Due.bad("at(_)", Due::busy, OnlyWhatIsLost::at, -1, 25);
        Due.bad("at(_) of 2 by 2", () -> Due.laid("r2,2;t0,0,1,0;"), OnlyWhatIsLost::at, -1, 4);
        Due.bad("at(_) of 8 by 8", () -> Due.laid("r8,8;t0,0,1,0;"), OnlyWhatIsLost::at, -1, 64);
    }

    private static OnlyWhatIsLost afterUndo(OnlyWhatIsLost x) {
        x.undo();
        x.undo();
        return x;
    }

    // ---- promise 8

    private static void freeCells() {
        Due.says(8, "A CELL is FREE in a YEAR, if nothing STANDS there.");
        OnlyWhatIsLost x = new OnlyWhatIsLost();
        Due.due("no thing is told there", x.free(0, 0), 1);
        Due.due("from year 0 on", x.free(6, 0), 0);
        Due.due("ahead of B", x.free(17, 1), 1);
        Due.due("from B on", x.free(17, 2), 0);
        Due.due("till F", x.free(17, 3), 0);
        Due.due("from F on", x.free(17, 4), 1);
        for (int kind = 0; kind <= 3; kind++) {
            OnlyWhatIsLost y = Due.laid("t5,0,9," + kind + ";");
            Due.due("kind " + kind, y.free(5, 8), 0);
            Due.due("kind " + kind + ", lost", y.free(5, 9), 1);
            Due.due("kind " + kind + ", right of it", y.free(6, 8), 1);
        }
        x.pass(2);
        x.burn(2);
        x.build(0);
        Due.due("burnt, the year ahead", x.free(12, 1), 0);
        Due.due("burnt, this year", x.free(12, 2), 1);
        Due.due("built, the year ahead", x.free(0, 1), 1);
        Due.due("built, this year", x.free(0, 2), 0);
        Due.due("built, far on", x.free(0, 199), 0);
    }

    private static void freeOnes() {
        Due.says(8, "Whether a CELL is FREE in a YEAR (0 to 199): 1, 0.");
        OnlyWhatIsLost x = Due.laid("r8,8;t63,0,99,1;t0,98,99,1;t1,0,98,1;t2,0,1,1;");
        Due.due("year 0", x.free(63, 0), 0);
        Due.due("never, in 98", x.free(63, 98), 0);
        Due.due("never, in 99", x.free(63, 99), 0);
        Due.due("never, in 100", x.free(63, 100), 0);
        Due.due("never, in 199", x.free(63, 199), 0);
        Due.due("B 98, in 97", x.free(0, 97), 1);
        Due.due("B 98, in 98", x.free(0, 98), 0);
        Due.due("F 98, in 97", x.free(1, 97), 0);
        Due.due("F 98, in 98", x.free(1, 98), 1);
        Due.due("F 98, in 199", x.free(1, 199), 1);
        Due.due("F 1, in 0", x.free(2, 0), 0);
        Due.due("F 1, in 1", x.free(2, 1), 1);
        x.pass(30);
        Due.due("a year gone by", x.free(2, 0), 0);
        Due.says(8, "BAD.");
        Due.bad("free(0, _)", Due::busy, (y, year) -> y.free(0, year), -1, 200);
        Due.bad("free(_, 0)", Due::busy, (y, cell) -> y.free(cell, 0), -1, 25);
    }

    // ---- promise 9

    private static void whatIsToldOfMaps() {
        Due.says(9, "Of a MAP: YEAR (what = 0), D (1), E (2), how many CELLS it shows (3).");
        OnlyWhatIsLost x = Due.laid("r4,4;t5,0,1,0;t6,0,1,0;m0,0,4;m99,4,0;m1,2,2;m1,3,1;m98,2,2;");
        int[][] told = {{0, 0, 4, 0}, {99, 4, 0, 1}, {1, 2, 2, 2}, {1, 3, 1, 2}, {98, 2, 2, 2}};
        for (int m = 0; m < told.length; m++) {
            for (int what = 0; what < 4; what++) {
                Due.due("map(" + m + ", " + what + ")", x.map(m, what), told[m][what]);
            }
        }
        OnlyWhatIsLost two = Due.laid("t0,0,1,2;t1,0,1,0;t4,0,1,2;m1,2,2;");
        Due.due("two drawn at one cell", two.map(0, 3), 2);
        StringBuilder ten = new StringBuilder("r2,5;");
        for (int t = 0; t < 10; t++) {
            ten.append("t").append(t).append(",0,1,0;");
        }
        Due.due("ten", Due.laid(ten + "m1,2,2;").map(0, 3), 10);
        Due.due("none", Due.laid(ten + "m0,2,2;").map(0, 3), 0);
    }

    private static void mapsThatAreNot() {
        Due.says(9, "BAD.");
        Due.bad("map(_, 0)", Due::busy, (x, m) -> x.map(m, 0), -1, 2);
        Due.bad("map(0, _)", Due::busy, (x, what) -> x.map(0, what), -1, 4);
        Due.due("no map at all", Due.laid("t0,0,1,0;").map(0, 0), BAD);
        OnlyWhatIsLost five = Due.laid("t0,0,1,0;" + "m7,2,2;".repeat(5));
        Due.due("the fifth", five.map(4, 0), 7);
        Due.due("none behind it", five.map(5, 0), BAD);
    }

    // ---- promise 10

    private static void shownCells() {
        Due.says(10, "Whether a MAP shows a CELL: 1, 0.");
        showsJust("r3,3;t0,0,1,0;t8,0,1,0;m1,2,2;", 0, 8);
        showsJust("r8,8;t0,0,1,0;t63,0,1,0;m1,2,2;", 0, 63);
        showsJust("r2,2;t0,0,1,0;t1,0,1,0;t2,0,1,0;t3,0,1,0;m1,2,2;", 0, 1, 2, 3);
        showsJust("t0,0,99,0;m98,2,2;");
        Due.says(10, "BAD.");
        Due.bad("shows(_, 0)", Due::busy, (x, m) -> x.shows(m, 0), -1, 2);
        Due.bad("shows(0, _)", Due::busy, (x, cell) -> x.shows(0, cell), -1, 25);
        Due.due("no map at all", Due.laid("t0,0,1,0;").shows(0, 0), BAD);
    }

    private static void drawnLost() {
        Due.says(10, "TRUE to a YEAR is a drawing of all CELLS of THINGS that are LOST by then, but SECRET ones;");
        String kinds = "r3,3;t0,0,2,0;t1,0,2,1;t2,0,2,3;t8,0,4,0;";
        showsJust(kinds + "m1,2,2;");
        showsJust(kinds + "m2,2,2;", 0, 1);
        showsJust(kinds + "m3,2,2;", 0, 1);
        showsJust(kinds + "m4,2,2;", 0, 1, 8);
        showsJust(kinds + "m99,2,2;", 0, 1, 8);
        showsJust("t0,0,98,0;m97,2,2;");
        showsJust("t0,0,98,0;m98,2,2;", 0);
        showsJust("t0,0,99,0;m99,2,2;");
        showsJust("t0,0,1,0;m0,2,2;");
    }

    private static void drawnMoved() {
        Due.says(10, "one that is MOVED is drawn at the CELL right of its own (at the end of a row: at its own).");
        showsJust("r3,3;t3,0,1,2;m1,2,2;", 4);
        showsJust("r3,3;t4,0,1,2;m1,2,2;", 5);
        showsJust("r3,3;t2,0,1,2;m1,2,2;", 2);
        showsJust("r3,3;t8,0,1,2;m1,2,2;", 8);
        showsJust("r8,8;t63,0,1,2;m1,2,2;", 63);
        showsJust("r8,8;t7,0,1,2;t6,0,1,0;m1,2,2;", 6, 7);
        showsJust("r2,2;t0,0,1,2;t1,0,1,2;m1,2,2;", 1);
        showsJust("r2,2;t2,0,1,2;m1,2,2;", 3);
        showsJust("r3,3;t2,0,1,2;m1,2,1;", 1);
        showsJust("r3,3;t1,0,1,2;m1,2,1;", 1);
        showsJust("r3,3;t1,0,1,2;m1,2,3;");
        showsJust("r3,3;t0,0,1,2;m1,2,3;", 2);
    }

    private static void hands() {
        Due.says(10, "A MAP shows what is TRUE to its YEAR");
        Due.due("its year, not this one", Due.laid("t0,0,1,0;m1,2,2;").shows(0, 0), 1);
        Due.due("not this year", Due.laidIn(9, "t0,0,1,0;m0,2,2;").shows(0, 0), 0);
        Due.says(10, "all as far down and right as its hand errs;");
        for (int down = 0; down <= 4; down++) {
            for (int right = 0; right <= 4; right++) {
                int cell = 12 + 5 * (down - 2) + right - 2;
                showsJust("t12,0,1,0;m1," + down + "," + right + ";", cell);
            }
        }
        showsJust("r2,8;t0,0,1,0;t5,0,1,0;m1,3,4;", 10, 15);
        showsJust("r8,2;t14,0,1,0;t5,0,1,0;m1,0,2;", 10, 1);
        Due.says(10, "2 less:");
        showsJust("t12,0,1,0;m1,0,0;", 0);
        showsJust("t12,0,1,0;m1,4,4;", 24);
        Due.says(10, "2 is none);");
        showsJust("t12,0,1,0;m1,2,2;", 12);
    }

    private static void outside() {
        Due.says(10, "what would be outside is not shown.");
        showsJust("r3,3;t0,0,1,0;m1,1,2;");
        showsJust("r3,3;t6,0,1,0;m1,3,2;");
        showsJust("r3,3;t3,0,1,0;m1,2,1;");
        showsJust("r3,3;t5,0,1,0;m1,2,3;");
        showsJust("r3,3;t4,0,1,0;m1,0,2;");
        showsJust("r3,3;t4,0,1,0;m1,4,2;");
        showsJust("r3,3;t4,0,1,0;m1,2,0;");
        showsJust("r3,3;t4,0,1,0;m1,2,4;");
        showsJust("r8,8;t0,0,1,0;t7,0,1,0;t56,0,1,0;t63,0,1,0;m1,0,0;", 45);
        showsJust("r8,8;t0,0,1,0;t7,0,1,0;t56,0,1,0;t63,0,1,0;m1,4,4;", 18);
        showsJust("r8,8;t0,0,1,0;t7,0,1,0;t56,0,1,0;t63,0,1,0;m1,4,0;", 21);
        showsJust("r8,8;t0,0,1,0;t7,0,1,0;t56,0,1,0;t63,0,1,0;m1,0,4;", 42);
        showsJust("r2,2;t0,0,1,0;t1,0,1,0;t2,0,1,0;t3,0,1,0;m1,3,3;", 3);
        showsJust("r2,2;t0,0,1,0;t1,0,1,0;t2,0,1,0;t3,0,1,0;m1,4,2;");
    }

    private static void knownNow() {
        Due.says(10, "(by what is known now of B, F),");
        OnlyWhatIsLost x = Due.laid("r3,3;t7,0,9,0;m1,2,2;m0,2,2;");
        Due.due("what falls later", x.shows(0, 7), 0);
        x.burn(0);
        Due.due("what fell since", x.shows(0, 7), 1);
        Due.due("what fell in year 0", x.shows(1, 7), 1);
        x.undo();
        Due.due("what did not", x.shows(0, 7), 0);
        x.pass(2);
        x.burn(0);
        Due.due("what fell behind its year", x.shows(0, 7), 0);
        OnlyWhatIsLost built = Due.laid("r3,3;t7,0,9,1;m1,2,2;m98,2,2;");
        built.build(0);
        Due.due("what is built never falls", built.map(1, 3), 1);
        built.pass(1);
        built.burn(1);
        Due.due("but it can be burnt", built.shows(0, 0), 1);
    }

    private static void showsJust(String country, int... cells) {
        OnlyWhatIsLost x = Due.laid(country);
        for (int cell = 0; cell < x.count(0); cell++) {
            int want = 0;
            for (int shown : cells) {
                want = shown == cell ? 1 : want;
            }
            Due.due("shows(0, " + cell + ") of " + country, x.shows(0, cell), want);
        }
        Due.due("map(0, 3) of " + country, x.map(0, 3), cells.length);
    }
}
