/** Promises 1 to 10: a new object, write, wipe, fault, lay, thing, at, free, map, shows. */
public final class LandsTest {
    private static final int BAD = OnlyWhatIsLost.BAD;
    private static final int NO = OnlyWhatIsLost.NO;
    private static final int FULL = OnlyWhatIsLost.FULL;
    private static final int NONE = OnlyWhatIsLost.NONE;

    public static void main(String[] args) {
        newObject();
        writing();
        wiping();
        faultsOfItems();
        faultsOfRows();
        faultsOfThings();
        faultsOfMaps();
        laying();
        things();
        thingsAtCells();
        freeCells();
        maps();
        shownCells();
        Due.end();
    }

    private static void newObject() {
        OnlyWhatIsLost x = new OnlyWhatIsLost();
        OnlyWhatIsLost same = Due.laid(Due.FIRST_LAND);
        for (int what = 0; what <= 8; what++) {
            Due.due("1: count(" + what + ")", x.count(what), same.count(what));
        }
        Due.due("1: THE TEXT is empty", x.count(9), 0);
        for (int t = 0; t < 6; t++) {
            for (int what = 0; what <= 5; what++) {
                Due.due("1: thing(" + t + ", " + what + ")", x.thing(t, what), same.thing(t, what));
            }
        }
        for (int m = 0; m < 2; m++) {
            for (int what = 0; what <= 3; what++) {
                Due.due("1: map(" + m + ", " + what + ")", x.map(m, what), same.map(m, what));
            }
        }
        Due.due("1: cells", x.count(0), 25);
        Due.due("1: things", x.count(1), 6);
        Due.due("1: maps", x.count(2), 2);
        Due.due("1: year", x.count(3), 0);
    }

    private static void writing() {
        OnlyWhatIsLost x = new OnlyWhatIsLost();
        Due.due("2: write(31)", x.write(31), BAD);
        Due.due("2: write(127)", x.write(127), BAD);
        Due.due("2: write(-1)", x.write(-1), BAD);
        Due.due("2: write(65536 + 116)", x.write(65536 + 116), BAD);
        Due.due("2: nothing was written", x.count(9), 0);
        Due.due("2: write(32)", x.write(32), 1);
        Due.due("2: write(126)", x.write(126), 2);
        for (int k = 3; k <= 200; k++) {
            Due.due("2: letter " + k, x.write('t'), k);
        }
        Due.due("2: the 201st", x.write('t'), FULL);
        Due.due("2: BAD ahead of FULL", x.write(127), BAD);
        Due.due("2: still 200", x.count(9), 200);
    }

    private static void wiping() {
        OnlyWhatIsLost x = Due.written("t0,0,1,0;");
        Due.due("3: wipe()", x.wipe(), 9);
        Due.due("3: wipe() again", x.wipe(), 0);
        Due.due("3: count(9)", x.count(9), 0);
        Due.due("3: fault()", x.fault(), NONE);
        Due.due("3: the land stays", x.count(1), 6);
        Due.due("3: letters come anew", x.write('r'), 1);
    }

    private static void faultsOfItems() {
        Due.faultOf("", NONE);
        Due.faultOf(Due.FIRST_LAND, NONE);
        Due.faultOf("x", 0);
        Due.faultOf(";", 0);
        Due.faultOf(" t0,0,1,0;", 0);
        Due.faultOf("t0,0,1,0; ", 9);
        Due.faultOf("t0,0,1,0;;", 9);
        Due.faultOf("T0,0,1,0;", 0);
        Due.faultOf("t", 0);
        Due.faultOf("t;", 0);
        Due.faultOf("t0,0,1,0", 0);
        Due.faultOf("t0,0,1;", 0);
        Due.faultOf("t0,0,1,0,0;", 0);
        Due.faultOf("t0,0,1,0,", 0);
        Due.faultOf("t,0,1,0;", 0);
        Due.faultOf("t0,,1,0;", 0);
        Due.faultOf("t0,0,1,;", 0);
        Due.faultOf("t00,00,01,00;", NONE);
        Due.faultOf("t000,0,1,0;", 0);
        Due.faultOf("t0,0,100,0;", 0);
        Due.faultOf("t-0,0,1,0;", 0);
        Due.faultOf("t0 ,0,1,0;", 0);
        Due.faultOf("t0;0;1;0;", 0);
        Due.faultOf("t0,0,1,0:", 0);
        Due.faultOf("t0,0,1,/;", 0);
        Due.faultOf("m0,0;", 0);
        Due.faultOf("m0,0,0,0;", 0);
        Due.faultOf("r5;", 0);
        Due.faultOf("r5,5,5;", 0);
        Due.faultOf("r5,5;x0;t0", 5);
    }

    private static void faultsOfRows() {
        Due.faultOf("r2,2;", NONE);
        Due.faultOf("r8,8;", NONE);
        Due.faultOf("r1,5;", 0);
        Due.faultOf("r5,1;", 0);
        Due.faultOf("r9,5;", 0);
        Due.faultOf("r5,9;", 0);
        Due.faultOf("r0,5;", 0);
        Due.faultOf("r2,2;r3,3;r4,4;t15,0,1,0;", NONE);
        Due.faultOf("r4,4;r2,2;t15,0,1,0;", 10);
        Due.faultOf("t0,0,1,0;r5,5;", 9);
        Due.faultOf("m0,2,2;r5,5;", 7);
        Due.faultOf("r2,2;t0,0,1,0;r2,2;", 14);
    }

    private static void faultsOfThings() {
        Due.faultOf("t24,0,1,0;", NONE);
        Due.faultOf("t25,0,1,0;", 0);
        Due.faultOf("r2,3;t5,0,1,0;t6,0,1,0;", 14);
        Due.faultOf("r8,8;t63,0,1,0;", NONE);
        Due.faultOf("r8,8;t64,0,1,0;", 5);
        Due.faultOf("t0,1,1,0;", 0);
        Due.faultOf("t0,2,1,0;", 0);
        Due.faultOf("t0,98,99,3;", NONE);
        Due.faultOf("t0,99,99,0;", 0);
        Due.faultOf("t0,0,1,4;", 0);
        Due.faultOf("t0,0,1,0;t0,3,4,1;", 9);
        Due.faultOf("t0,0,1,0;t1,0,1,0;t01,0,1,0;", 18);
        String ten = "";
        for (int t = 0; t < 10; t++) {
            ten += "t" + t + ",0,1,0;";
        }
        Due.faultOf(ten, NONE);
        Due.faultOf(ten + "t10,0,1,0;", 90);
        Due.faultOf(ten + "m0,2,2;", NONE);
    }

    private static void faultsOfMaps() {
        Due.faultOf("m0,0,0;", NONE);
        Due.faultOf("m99,4,4;", NONE);
        Due.faultOf("m0,5,0;", 0);
        Due.faultOf("m0,0,5;", 0);
        Due.faultOf("m0,2,2;t0,0,1,0;m0,2,2;", NONE);
        Due.faultOf("m0,2,2;m0,2,2;m0,2,2;m0,2,2;m0,2,2;", NONE);
        Due.faultOf("m0,2,2;m0,2,2;m0,2,2;m0,2,2;m0,2,2;m0,2,2;", 35);
    }

    private static void laying() {
        OnlyWhatIsLost x = new OnlyWhatIsLost();
        Due.due("5: an empty text", x.lay(), NO);
        Due.write(x, "r3,4;m2,2,2;");
        Due.due("5: no fault without a thing", x.fault(), NONE);
        Due.due("5: but nothing to lay", x.lay(), NO);
        Due.due("5: nothing changed", x.count(0), 25);
        Due.due("5: no thing changed", x.count(1), 6);
        Due.due("5: no map changed", x.map(0, 0), 4);
        x.pass(3);
        x.seen(1);
        x.keep();
        Due.write(x, "t11,0,3,1;z");
        Due.due("5: a fault", x.lay(), NO);
        Due.due("5: the year stays", x.count(3), 3);
        Due.due("5: what is seen stays", x.count(6), 1);
        Due.due("5: what can be undone stays", x.count(7), 1);
        Due.due("5: what is kept stays", x.count(8), 1);
        x.wipe();
        Due.write(x, "r3,4;m2,2,2;t11,0,3,1;");
        Due.due("5: lay()", x.lay(), 12);
        Due.due("5: year 0", x.count(3), 0);
        Due.due("5: nothing seen", x.count(6), 0);
        Due.due("5: nothing found of the old ones", x.found(0), 25);
        Due.due("5: nothing to undo", x.undo(), NO);
        Due.due("5: nothing kept", x.back(), NO);
        Due.due("5: things", x.count(1), 1);
        Due.due("5: maps", x.count(2), 1);
        Due.due("5: the text stays", x.count(9), 22);
        Due.due("5: lay() again", x.lay(), 12);
        x.wipe();
        Due.write(x, "t11,0,3,1;");
        Due.due("5: 5, 5 without rows", x.lay(), 25);
        Due.due("5: no maps are left", x.count(2), 0);
        Due.due("5: of several rows the last", Due.laid("r2,2;r3,7;t0,0,1,0;").count(0), 21);
    }

    private static void things() {
        OnlyWhatIsLost x = new OnlyWhatIsLost();
        int[][] told = {{6, 0, 3, 0}, {7, 1, 99, 1}, {12, 0, 5, 0}, {17, 2, 4, 2}, {18, 0, 9, 3}, {3, 0, 6, 1}};
        for (int t = 0; t < told.length; t++) {
            for (int what = 0; what < 4; what++) {
                Due.due("6: thing(" + t + ", " + what + ")", x.thing(t, what), told[t][what]);
            }
        }
        Due.due("6: thing(-1, 0)", x.thing(-1, 0), BAD);
        Due.due("6: thing(6, 0)", x.thing(6, 0), BAD);
        Due.due("6: thing(0, -1)", x.thing(0, -1), BAD);
        Due.due("6: thing(0, 6)", x.thing(0, 6), BAD);
        Due.due("6: thing(MIN, MAX)", x.thing(Integer.MIN_VALUE, Integer.MAX_VALUE), BAD);
        for (int year = 0; year <= 5; year++) {
            Due.due("6: 3 stands in " + year, x.thing(3, 4), year >= 2 && year < 4 ? 1 : 0);
            Due.due("6: 3 is lost in " + year, x.thing(3, 5), year >= 4 ? 1 : 0);
            x.pass(1);
        }
        x.burn(2);
        OnlyWhatIsLost y = new OnlyWhatIsLost();
        y.pass(1);
        y.burn(2);
        Due.due("6: a burnt one falls this year", y.thing(2, 2), 1);
        Due.due("6: a burnt one does not stand", y.thing(2, 4), 0);
        Due.due("6: a burnt one is lost", y.thing(2, 5), 1);
        y.pass(30);
        y.pass(30);
        y.pass(30);
        y.pass(7);
        Due.due("6: one told so never falls", y.thing(1, 4), 1);
        Due.due("6: nor is it lost", y.thing(1, 5), 0);
    }

    private static void thingsAtCells() {
        OnlyWhatIsLost x = new OnlyWhatIsLost();
        Due.due("7: at(17), not yet built", x.at(17), 3);
        Due.due("7: at(6)", x.at(6), 0);
        x.pass(30);
        Due.due("7: at(6), lost", x.at(6), 0);
        Due.due("7: at(24)", x.at(24), NONE);
        Due.due("7: at(25)", x.at(25), BAD);
        Due.due("7: at(-1)", x.at(-1), BAD);
        x.build(24);
        Due.due("7: at(24), built", x.at(24), 6);
        x.undo();
        Due.due("7: at(24), undone", x.at(24), NONE);
    }

    private static void freeCells() {
        OnlyWhatIsLost x = new OnlyWhatIsLost();
        Due.due("8: year 0", x.free(6, 0), 0);
        Due.due("8: year 0, nothing built yet", x.free(17, 0), 1);
        Due.due("8: ahead of B", x.free(17, 1), 1);
        Due.due("8: from B on", x.free(17, 2), 0);
        Due.due("8: till F", x.free(17, 3), 0);
        Due.due("8: from F on", x.free(17, 4), 1);
        Due.due("8: never in 98", x.free(7, 98), 0);
        Due.due("8: never in 99", x.free(7, 99), 0);
        Due.due("8: never in 199", x.free(7, 199), 0);
        Due.due("8: no thing", x.free(0, 199), 1);
        Due.due("8: year 200", x.free(0, 200), BAD);
        Due.due("8: year -1", x.free(0, -1), BAD);
        Due.due("8: cell 25", x.free(25, 0), BAD);
        Due.due("8: cell -1", x.free(-1, 0), BAD);
        x.pass(2);
        x.burn(2);
        x.build(0);
        Due.due("8: burnt, the year ahead", x.free(12, 1), 0);
        Due.due("8: burnt, this year", x.free(12, 2), 1);
        Due.due("8: built, the year ahead", x.free(0, 1), 1);
        Due.due("8: built, this year", x.free(0, 2), 0);
        Due.due("8: built, far on", x.free(0, 150), 0);
    }

    private static void maps() {
        OnlyWhatIsLost x = new OnlyWhatIsLost();
        int[][] told = {{4, 2, 2, 2}, {6, 2, 3, 4}};
        for (int m = 0; m < told.length; m++) {
            for (int what = 0; what < 4; what++) {
                Due.due("9: map(" + m + ", " + what + ")", x.map(m, what), told[m][what]);
            }
        }
        Due.due("9: map(-1, 0)", x.map(-1, 0), BAD);
        Due.due("9: map(2, 0)", x.map(2, 0), BAD);
        Due.due("9: map(0, -1)", x.map(0, -1), BAD);
        Due.due("9: map(0, 4)", x.map(0, 4), BAD);
        x.burn(2);
        Due.due("9: by what is known now", x.map(0, 3), 3);
        OnlyWhatIsLost y = Due.laid("t0,0,1,2;t1,0,1,0;t4,0,1,2;t24,0,99,0;m99,2,2;m0,2,2;");
        Due.due("9: two drawn at one cell", y.map(0, 3), 2);
        Due.due("9: nothing lost by then", y.map(1, 3), 0);
    }

    private static void shownCells() {
        String country = "r3,3;t0,0,1,0;t2,0,1,2;t3,0,1,2;t8,0,1,3;t7,0,9,0;";
        showsJust(country + "m1,2,2;", 0, 2, 4);
        showsJust(country + "m0,2,2;");
        showsJust(country + "m9,2,2;", 0, 2, 4, 7);
        showsJust(country + "m1,3,2;", 3, 5, 7);
        showsJust(country + "m1,2,3;", 1, 5);
        showsJust(country + "m1,1,2;", 1);
        showsJust(country + "m1,2,1;", 1, 3);
        showsJust(country + "m1,4,0;", 6);
        showsJust(country + "m1,0,0;");
        OnlyWhatIsLost x = Due.laid(country + "m1,2,2;");
        Due.due("10: shows(1, 0)", x.shows(1, 0), BAD);
        Due.due("10: shows(-1, 0)", x.shows(-1, 0), BAD);
        Due.due("10: shows(0, 9)", x.shows(0, 9), BAD);
        Due.due("10: shows(0, -1)", x.shows(0, -1), BAD);
        Due.due("10: what falls later", x.shows(0, 7), 0);
        x.burn(4);
        Due.due("10: what fell since", x.shows(0, 7), 1);
        x.undo();
        Due.due("10: what did not", x.shows(0, 7), 0);
    }

    private static void showsJust(String country, int... cells) {
        OnlyWhatIsLost x = Due.laid(country);
        for (int cell = 0; cell < x.count(0); cell++) {
            int want = 0;
            for (int shown : cells) {
                want = shown == cell ? 1 : want;
            }
            Due.due("10: shows(0, " + cell + ") of " + country, x.shows(0, cell), want);
        }
        Due.due("9: map(0, 3) of " + country, x.map(0, 3), cells.length);
    }
}
