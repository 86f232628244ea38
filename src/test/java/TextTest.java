/** Promises 1 to 5: a new object, write, wipe, fault, lay. */
public final class TextTest {
    private static final int BAD = OnlyWhatIsLost.BAD;
    private static final int NO = OnlyWhatIsLost.NO;
    private static final int FULL = OnlyWhatIsLost.FULL;
    private static final int NONE = OnlyWhatIsLost.NONE;

    public static void main(String[] args) {
        asTold();
        textIsEmptyAtFirst();
        letters();
        textIsFull();
        wiping();
        faultOrNone();
        placesOfFaults();
        itemsAndNumbers();
        rows();
        rowsAheadOfAll();
        things();
        yearsOfThings();
        kindsOfThings();
        numbersOfThings();
        maps();
        numbersOfMaps();
        laying();
        layingAnew();
        notLaid();
        Due.end();
    }

    // ---- promise 1

    private static void asTold() {
        Due.says(1, "As told;");
        OnlyWhatIsLost told = Due.laid(Due.FIRST_LAND);
        told.wipe();
        Due.same("a new object", Everything.of(new OnlyWhatIsLost()), Everything.of(told));
        Due.says(1, "It is YEAR 0 at first.");
        Due.due("count(3)", new OnlyWhatIsLost().count(3), 0);
        Due.says(1, "at first t6,0,3,0;t7,1,99,1;t12,0,5,0;t17,2,4,2;t18,0,9,3;t3,0,6,1;m4,2,2;m6,2,3;).");
        OnlyWhatIsLost x = new OnlyWhatIsLost();
        int[] counts = {25, 6, 2, 0, 4, 0, 0, 0, 0, 0};
        for (int what = 0; what < counts.length; what++) {
            Due.due("count(" + what + ")", x.count(what), counts[what]);
        }
        int[][] things = {{6, 0, 3, 0}, {7, 1, 99, 1}, {12, 0, 5, 0}, {17, 2, 4, 2}, {18, 0, 9, 3}, {3, 0, 6, 1}};
        for (int t = 0; t < things.length; t++) {
            for (int what = 0; what < 4; what++) {
                Due.due("thing(" + t + ", " + what + ")", x.thing(t, what), things[t][what]);
            }
        }
        int[][] maps = {{4, 2, 2}, {6, 2, 3}};
        for (int m = 0; m < maps.length; m++) {
            for (int what = 0; what < 3; what++) {
                Due.due("map(" + m + ", " + what + ")", x.map(m, what), maps[m][what]);
            }
        }
        String ahead = Everything.of(new OnlyWhatIsLost());
        Due.laid("r2,2;t0,0,1,0;").pass(30);
        Due.same("a new object behind another one", Everything.of(new OnlyWhatIsLost()), ahead);
    }

    private static void textIsEmptyAtFirst() {
        Due.says(1, "THE TEXT is empty.");
        Due.due("count(9)", new OnlyWhatIsLost().count(9), 0);
        Due.due("wipe()", new OnlyWhatIsLost().wipe(), 0);
        Due.due("lay()", new OnlyWhatIsLost().lay(), NO);
        Due.due("the first letter", new OnlyWhatIsLost().write('t'), 1);
    }

    // ---- promises 2 and 3

    private static void letters() {
        Due.says(2, "A letter (32 to 126, as in ASCII) comes behind THE TEXT: how long it is.");
        OnlyWhatIsLost x = new OnlyWhatIsLost();
        for (int letter = 32; letter <= 126; letter++) {
            Due.due("write(" + letter + ")", x.write(letter), letter - 31);
        }
        Due.due("count(9)", x.count(9), 95);
        Due.due("behind, not ahead", Due.written("m0,2,2;x").fault(), 7);
        Due.says(2, "BAD;");
        // Those that a char or a byte would take for a t among them.
        Due.bad("write(_)", Due::busy, OnlyWhatIsLost::write, 31, 127, 0, -1, -32, 128, 256 + 't', 65536 + 't', 't' - 256);
    }

    private static void textIsFull() {
        Due.says(2, "A TEXT is letters (200 at most),");
        OnlyWhatIsLost x = new OnlyWhatIsLost();
        for (int k = 1; k <= 200; k++) {
            Due.due("letter " + k, x.write('t'), k);
        }
        Due.says(2, "FULL.");
        Due.due("the 201st", x.write('t'), FULL);
        Due.due("again", x.write('t'), FULL);
        Due.due("BAD ahead of FULL", x.write(127), BAD);
        Due.due("count(9)", x.count(9), 200);
        String whole = "r3,3;".repeat(38) + "t8,0,1,00;";
        Due.idle("the 201st behind a whole text", () -> Due.written(whole), y -> y.write(';'), FULL);
        Due.due("it is laid still", Due.written(whole + "x").lay(), 9);
        String cut = "r3,3;".repeat(38) + "t08,0,1,00;";
        Due.due("the ; of the last item has no room", Due.written(cut).fault(), 190);
        x.wipe();
        Due.due("room again", x.write('t'), 1);
    }

    private static void wiping() {
        Due.says(3, "THE TEXT is empty: how long it was.");
        OnlyWhatIsLost x = new OnlyWhatIsLost();
        Due.due("wipe() of none", x.wipe(), 0);
        Due.write(x, "t0,0,1,0;");
        Due.due("wipe() of 9", x.wipe(), 9);
        Due.due("wipe() again", x.wipe(), 0);
        Due.due("count(9)", x.count(9), 0);
        Due.due("fault()", x.fault(), NONE);
        Due.due("lay()", x.lay(), NO);
        Due.write(x, "z".repeat(201));
        Due.due("wipe() of 200", x.wipe(), 200);
        Due.write(x, "r2,2;t3,0,1,0;");
        Due.due("nothing of the old one is left", x.fault(), NONE);
        OnlyWhatIsLost busy = Due.busy();
        busy.wipe();
        Due.due("the land stays", busy.count(1), 7);
        Due.due("the year stays", busy.count(3), 1);
        Due.due("what is seen stays", busy.count(6), 2);
        Due.due("what can be undone stays", busy.count(7), 3);
        Due.due("what is kept stays", busy.count(8), 1);
    }

    // ---- promise 4

    private static void faultOrNone() {
        Due.says(4, "FAULT. NONE.");
        Due.faultOf("", NONE);
        Due.faultOf(Due.FIRST_LAND, NONE);
        Due.faultOf("r3,4;m2,2,2;", NONE);
        Due.faultOf("x", 0);
        Due.idle("fault()", Due::busy, OnlyWhatIsLost::fault, 9);
        Due.idle("fault() of a whole text", () -> Due.written("r2,2;t3,0,1,0;"), OnlyWhatIsLost::fault, NONE);
        OnlyWhatIsLost x = Due.written("t0,0,1,0;t");
        Due.due("half an item", x.fault(), 9);
        Due.due("half an item, again", x.fault(), 9);
        Due.write(x, "1,0,1,0;");
        Due.due("its other half", x.fault(), NONE);
    }

    private static void placesOfFaults() {
        Due.says(4, "FAULT: the place (from 0 on) of the first letter of the first ITEM that is not so.");
        Due.faultOf(" t0,0,1,0;", 0);
        Due.faultOf("t0,0,1,0; ", 9);
        Due.faultOf("t0,0,1,0;;", 9);
        Due.faultOf("r5,5;x0;t0", 5);
        Due.faultOf("r5,5;t0,0,1,4;t0,0,1,9;", 5);
        Due.faultOf("t0,0,1,0;t1,0,1,0;t2,1,1,0;m0,9,9;", 18);
        Due.faultOf("r2,2;".repeat(39) + "r2,2;", NONE);
        Due.faultOf("r2,2;".repeat(39) + "r2,2:", 195);
        Due.faultOf("r2,2;".repeat(38) + "m00,2,02;m", 199);
    }

    private static void itemsAndNumbers() {
        Due.says(4, "ITEMS one behind the other, each a letter,");
        for (int letter = 32; letter <= 126; letter++) {
            String sign = String.valueOf((char) letter);
            Due.faultOf(sign + "2,2;", letter == 'r' ? NONE : 0);
            Due.faultOf(sign + "0,1,2;", letter == 'm' ? NONE : 0);
            Due.faultOf(sign + "0,1,2,3;", letter == 't' ? NONE : 0);
        }
        Due.faultOf("m0,2,2;,m0,2,2;", 7);
        Due.faultOf("mm0,2,2;", 0);
        Due.says(4, "then numbers (one or two figures)");
        Due.faultOf("t00,00,01,00;", NONE);
        Due.faultOf("t,0,1,0;", 0);
        Due.faultOf("t0,,1,0;", 0);
        Due.faultOf("t0,0,1,;", 0);
        Due.faultOf("t000,0,1,0;", 0);
        Due.faultOf("t0,0,100,0;", 0);
        Due.faultOf("t0,0,1,000;", 0);
        Due.faultOf("t-0,0,1,0;", 0);
        Due.faultOf("t+0,0,1,0;", 0);
        Due.faultOf("t0 ,0,1,0;", 0);
        Due.faultOf("t0, 0,1,0;", 0);
        Due.faultOf("t0,0,1,/;", 0);
        Due.faultOf("t0,0,1,:;", 0);
        Due.faultOf("m0/,2,2;", 0);
        Due.faultOf("m0:,2,2;", 0);
        Due.says(4, "parted by , and a ; behind the last one:");
        Due.faultOf("t0,0,1,0", 0);
        Due.faultOf("t0,0,1,0,", 0);
        Due.faultOf("t0,0,1,0:", 0);
        Due.faultOf("t0;0;1;0;", 0);
        Due.faultOf("t0.0.1.0;", 0);
        Due.faultOf("t", 0);
        Due.faultOf("t;", 0);
        Due.faultOf("t0,0,1;", 0);
        Due.faultOf("t0,0,1,0,0;", 0);
        Due.faultOf("m0,0;", 0);
        Due.faultOf("m0,0,0,0;", 0);
        Due.faultOf("r5;", 0);
        Due.faultOf("r5,5,5;", 0);
    }

    private static void rows() {
        Due.says(4, "rR,C R rows of C CELLS (2 to 8 each;");
        for (int side = 0; side <= 99; side++) {
            int want = side >= 2 && side <= 8 ? NONE : 0;
            Due.faultOf("r" + side + ",5;", want);
            Due.faultOf("r5," + side + ";", want);
        }
        Due.faultOf("r02,08;", NONE);
        Due.says(4, "5, 5 without;");
        Due.faultOf("t24,0,1,0;", NONE);
        Due.faultOf("t25,0,1,0;", 0);
        Due.says(5, "rR,C R rows of C CELLS (2 to 8 each;");
        Due.due("2 rows of 2", Due.laid("r2,2;t3,0,1,0;").count(0), 4);
        Due.due("8 rows of 8", Due.laid("r8,8;t63,0,1,0;").count(0), 64);
        OnlyWhatIsLost wide = Due.laid("r2,8;t15,0,9,1;");
        Due.due("2 rows of 8", wide.count(0), 16);
        Due.due("along the first row", wide.way(0, 7), 7);
        Due.due("down to the second one", wide.way(0, 8), 1);
        OnlyWhatIsLost high = Due.laid("r8,2;t15,0,9,1;");
        Due.due("8 rows of 2", high.count(0), 16);
        Due.due("down to the fourth row", high.way(0, 6), 3);
        Due.says(5, "5, 5 without;");
        Due.due("5 rows of 5", Due.laid("t24,0,1,0;").count(0), 25);
        OnlyWhatIsLost x = Due.laid("r2,3;t0,0,1,0;");
        x.wipe();
        Due.write(x, "t24,0,1,0;");
        Due.due("not those of the land ahead of it", x.lay(), 25);
        Due.says(5, "CELL 0 is the first of the first row, then along it, row by row");
        OnlyWhatIsLost y = Due.laid("r3,4;t11,0,9,1;");
        Due.due("the end of the first row", y.way(0, 3), 3);
        Due.due("the first of the second one", y.way(0, 4), 1);
        Due.due("the last of the last one", y.free(11, 0), 0);
    }

    private static void rowsAheadOfAll() {
        Due.says(4, "no other ITEM ahead of it but r;");
        Due.faultOf("t0,0,1,0;r5,5;", 9);
        Due.faultOf("m0,2,2;r5,5;", 7);
        Due.faultOf("r2,2;t0,0,1,0;r2,2;", 14);
        Due.faultOf("r2,2;m0,2,2;r2,2;", 12);
        Due.faultOf("r2,2;r3,3;t0,0,1,0;", NONE);
        Due.says(4, "of several the last one counts);");
        Due.faultOf("r2,2;r3,3;r4,4;t15,0,1,0;", NONE);
        Due.faultOf("r4,4;r2,2;t15,0,1,0;", 10);
        Due.faultOf("r8,8;r9,9;t0,0,1,0;", 5);
        Due.says(5, "of several the last one counts);");
        Due.due("3 rows of 7", Due.laid("r2,2;r3,7;t0,0,1,0;").count(0), 21);
    }

    private static void things() {
        Due.says(4, "tX,B,F,K a THING at CELL X,");
        Due.faultOf("r2,2;t3,0,1,0;", NONE);
        Due.faultOf("r2,2;t4,0,1,0;", 5);
        Due.faultOf("r2,3;t5,0,1,0;t6,0,1,0;", 14);
        Due.faultOf("r8,8;t63,0,1,0;", NONE);
        Due.faultOf("r8,8;t64,0,1,0;", 5);
        Due.faultOf("t99,0,1,0;", 0);
        Due.says(4, "one at a CELL");
        Due.faultOf("t0,0,1,0;t0,3,4,1;", 9);
        Due.faultOf("t0,0,1,0;t1,0,1,0;t01,0,1,0;", 18);
        Due.faultOf("t24,0,1,0;m0,2,2;t24,5,6,0;", 17);
    }

    private static void yearsOfThings() {
        Due.says(4, "(0 to 99; B less than F;");
        Due.faultOf("t0,0,1,0;", NONE);
        Due.faultOf("t0,0,99,0;", NONE);
        Due.faultOf("t0,98,99,0;", NONE);
        Due.faultOf("t0,97,98,0;", NONE);
        Due.faultOf("t0,0,0,0;", 0);
        Due.faultOf("t0,1,1,0;", 0);
        Due.faultOf("t0,2,1,0;", 0);
        Due.faultOf("t0,99,99,0;", 0);
        Due.faultOf("t0,99,98,0;", 0);
        Due.faultOf("t0,10,9,0;", 0);
        Due.faultOf("t0,9,10,0;", NONE);
    }

    private static void kindsOfThings() {
        Due.says(4, "of KIND K (0 HOUSE, 1 WALL, 2 MOVED, 3 SECRET);");
        for (int kind = 0; kind <= 99; kind++) {
            Due.faultOf("t0,0,1," + kind + ";", kind <= 3 ? NONE : 0);
        }
    }

    private static void numbersOfThings() {
        Due.says(4, "10 at most, 0, 1, ..;");
        StringBuilder ten = new StringBuilder();
        for (int t = 0; t < 10; t++) {
            ten.append("t").append(t).append(",0,1,0;");
        }
        Due.faultOf(ten.toString(), NONE);
        Due.faultOf(ten + "t10,0,1,0;", 90);
        Due.faultOf(ten + "t0,0,1,0;", 90);
        Due.faultOf(ten + "m0,2,2;", NONE);
        Due.faultOf(ten + "m0,2,2;t10,0,1,0;", 97);
        Due.says(5, "10 at most, 0, 1, ..;");
        OnlyWhatIsLost x = Due.laid(ten.toString());
        Due.due("count(1)", x.count(1), 10);
        Due.due("the first is 0", x.thing(0, 0), 0);
        Due.due("the last is 9", x.thing(9, 0), 9);
        Due.due("a THING's number is its place among THINGS", Due.laid("m0,2,2;t7,0,1,0;m1,2,2;t3,0,1,0;").at(3), 1);
    }

    private static void maps() {
        Due.says(4, "mY,D,E a MAP drawn in YEAR Y by a hand that errs by D down and E right (0 to 4 each,");
        for (int error = 0; error <= 99; error++) {
            int want = error <= 4 ? NONE : 0;
            Due.faultOf("m0," + error + ",0;", want);
            Due.faultOf("m0,0," + error + ";", want);
        }
        Due.faultOf("m0,4,4;", NONE);
        Due.faultOf("m99,0,0;", NONE);
        Due.faultOf("m100,0,0;", 0);
    }

    private static void numbersOfMaps() {
        Due.says(4, "5 at most, 0, 1, ..");
        Due.faultOf("m0,2,2;".repeat(5), NONE);
        Due.faultOf("m0,2,2;".repeat(6), 35);
        Due.faultOf("m0,2,2;".repeat(5) + "t0,0,1,0;", NONE);
        Due.faultOf("m0,2,2;".repeat(5) + "t0,0,1,0;m0,2,2;", 44);
        Due.says(5, "5 at most, 0, 1, ..");
        OnlyWhatIsLost x = Due.laid("m10,2,2;m20,2,2;t0,0,1,0;m30,2,2;m40,2,2;m50,2,2;");
        Due.due("count(2)", x.count(2), 5);
        Due.due("the first is 0", x.map(0, 0), 10);
        Due.due("the last is 4", x.map(4, 0), 50);
    }

    // ---- promise 5

    private static void laying() {
        Due.says(5, "LAID: how many CELLS;");
        for (int rows = 2; rows <= 8; rows++) {
            for (int columns = 2; columns <= 8; columns++) {
                OnlyWhatIsLost x = Due.written("r" + rows + "," + columns + ";t0,0,1,0;");
                Due.due("lay() of " + rows + ", " + columns, x.lay(), rows * columns);
            }
        }
        Due.says(5, "YEAR 0, nothing SEEN, UNDONE, KEPT;");
        OnlyWhatIsLost x = Due.busy();
        x.wipe();
        Due.write(x, "r2,2;t1,0,3,1;m3,2,2;");
        x.lay();
        Due.due("year", x.count(3), 0);
        Due.due("seen", x.count(6), 0);
        Due.due("no cell is seen: 25 hands would show none", x.found(0), 25);
        Due.due("undone", x.count(7), 0);
        Due.due("undo()", x.undo(), NO);
        Due.due("kept", x.count(8), 0);
        Due.due("back()", x.back(), NO);
        Due.due("things", x.count(1), 1);
        Due.due("maps", x.count(2), 1);
        Due.says(5, "THE TEXT stays.");
        Due.due("count(9)", x.count(9), 21);
        Due.due("fault()", x.fault(), NONE);
        Due.due("the next letter", x.write('t'), 22);
    }

    private static void layingAnew() {
        Due.says(5, "LAID: how many CELLS;");
        OnlyWhatIsLost x = Due.written("r3,4;t11,0,3,0;m2,2,2;");
        x.lay();
        x.pass(1);
        x.burn(0);
        x.build(0);
        Due.due("the same text again", x.lay(), 12);
        OnlyWhatIsLost once = Due.laid("r3,4;t11,0,3,0;m2,2,2;");
        Due.same("it is as at once", Everything.of(x), Everything.of(once));
        OnlyWhatIsLost y = Due.written(Due.FIRST_LAND);
        y.lay();
        y.wipe();
        Due.write(y, "t11,0,3,1;");
        Due.due("a text without maps", y.lay(), 25);
        Due.due("no map of the old land is left", y.count(2), 0);
        Due.due("no thing of the old land is left", y.at(6), NONE);
    }

    private static void notLaid() {
        Due.says(5, "LAID is a TEXT without FAULT, of a THING at least (NO else;");
        Due.due("a thing", Due.written("t0,0,1,0;").lay(), 25);
        Due.due("no item", new OnlyWhatIsLost().lay(), NO);
        Due.due("rows alone", Due.written("r3,4;").lay(), NO);
        Due.due("rows and a map", Due.written("r3,4;m2,2,2;").lay(), NO);
        Due.due("a fault ahead", Due.written("xt0,0,1,0;").lay(), NO);
        Due.due("a fault behind", Due.written("t0,0,1,0;x").lay(), NO);
        Due.due("half an item behind", Due.written("t0,0,1,0;t1,0,1,0").lay(), NO);
        Due.says(5, "NO.");
        Due.idle("lay() of a fault", Due::busy, OnlyWhatIsLost::lay, NO);
        Due.idle("lay() of no thing", () -> busyWith("r3,4;m2,2,2;"), OnlyWhatIsLost::lay, NO);
        Due.idle("lay() of a fault behind rows", () -> busyWith("r2,2;t0,0,1,0;m1,2,2;t9"), OnlyWhatIsLost::lay, NO);
        Due.idle("lay() of nothing", () -> busyWith(""), OnlyWhatIsLost::lay, NO);
        OnlyWhatIsLost x = Due.written("r2,2;t0,0,1,0;m1,2,2;t9");
        x.lay();
        x.wipe();
        Due.write(x, "t24,0,1,0;");
        Due.due("nothing of what was refused is left", x.lay(), 25);
        Due.due("one thing", x.count(1), 1);
        Due.due("no map", x.count(2), 0);
    }

    private static OnlyWhatIsLost busyWith(String text) {
        OnlyWhatIsLost x = Due.busy();
        x.wipe();
        Due.write(x, text);
        return x;
    }
}
