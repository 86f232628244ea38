/** Promises 19 to 23: wrong, older, seen, forget, found. */
public final class MapsTest {
    private static final int BAD = OnlyWhatIsLost.BAD;
    private static final int FULL = OnlyWhatIsLost.FULL;
    private static final int NONE = OnlyWhatIsLost.NONE;
    private static final String FIVE = "t0,0,1,0;t1,0,2,1;t2,0,3,2;t3,0,4,3;t4,0,5,0;t5,0,99,0;";
    private static final String TEN = "r2,5;t0,0,1,0;t1,0,1,0;t2,0,1,0;t3,0,1,0;t4,0,1,0;"
        + "t5,0,1,0;t6,0,1,0;t7,0,1,0;t8,0,1,0;t9,0,1,0;";

    public static void main(String[] args) {
        falseCells();
        notFalse();
        orders();
        ordersByMaps();
        noMap();
        seeing();
        seeingTwelve();
        forgetting();
        finding();
        yearsAndHands();
        notFinding();
        Due.end();
    }

    // ---- promise 19

    private static void falseCells() {
        Due.says(19, "FALSE: how many CELLS a MAP shows where there is no THING that is LOST by its YEAR (SECRET ones, too);");
        OnlyWhatIsLost x = Due.laid("r3,3;t0,0,1,0;t1,0,1,3;t3,0,1,2;t4,0,5,0;t8,0,1,0;m1,2,2;m1,2,3;m5,2,2;m4,2,2;");
        Due.due("a moved one beside what stands", x.wrong(0, 0), 1);
        Due.due("a secret one is lost there", x.shows(1, 1), 1);
        Due.due("so it is not false", x.wrong(1, 0), 1);
        Due.due("lost in its year", x.wrong(2, 0), 0);
        Due.due("lost in the year behind it", x.wrong(3, 0), 1);
        Due.due("all of ten", Due.laid(TEN + "m1,2,2;").wrong(0, 0), 0);
        Due.due("none of ten is where it was", Due.laid("r4,5;" + TEN.substring(5) + "m1,4,2;").wrong(0, 0), 10);
        Due.due("a thing that is told for later", Due.laid("r2,2;t0,0,1,0;t1,2,3,0;m1,2,3;").wrong(0, 0), 1);
        Due.says(19, "FALSE: how many (what = 0), the lowest (1; NONE).");
        Due.due("the lowest", x.wrong(0, 1), 4);
        Due.due("the lowest of the other one", x.wrong(1, 1), 5);
        Due.says(19, "the lowest; none.");
        Due.due("cell 0 is the lowest", Due.laid("t1,0,1,0;t3,0,1,0;m1,2,1;").wrong(0, 1), 0);
        Due.due("cell 63 is the lowest", Due.laid("r8,8;t62,0,1,2;m1,2,2;").wrong(0, 1), 63);
        Due.due("none", x.wrong(2, 1), NONE);
        Due.due("none of nothing", Due.laid("t0,0,1,0;m0,2,2;").wrong(0, 1), NONE);
        Due.due("how many of nothing", Due.laid("t0,0,1,0;m0,2,2;").wrong(0, 0), 0);
    }

    private static void notFalse() {
        Due.says(19, "BAD.");
        Due.bad("wrong(_, 0)", Due::busy, (x, m) -> x.wrong(m, 0), -1, 2);
        Due.bad("wrong(0, _)", Due::busy, (x, what) -> x.wrong(0, what), -1, 2);
        Due.due("BAD ahead of NONE", Due.laid("t0,0,1,0;m0,2,2;").wrong(0, 2), BAD);
        Due.due("BAD ahead of NONE", Due.laid("t0,0,1,0;m0,2,2;").wrong(1, 1), BAD);
        Due.due("no map at all", Due.laid("t0,0,1,0;").wrong(0, 0), BAD);
        Due.idle("wrong(1, 1)", Due::busy, x -> x.wrong(1, 1), 4);
    }

    // ---- promise 20

    private static void orders() {
        Due.says(20, "OLDER: in how many orders THINGS (no SECRET ones) that are LOST by the greatest YEAR of a MAP"
            + " can have fallen, one behind the other,");
        Due.due("three of five", Due.laid(FIVE + "m4,2,2;").older(), 6);
        Due.due("four of five", Due.laid(FIVE + "m5,2,2;").older(), 24);
        Due.due("a secret one alone", Due.laid("t0,0,1,3;m1,2,2;").older(), 1);
        Due.due("moved ones count", Due.laid("t0,0,1,2;t1,0,1,2;m1,2,2;").older(), 2);
        Due.due("walls count", Due.laid("t0,0,1,1;t1,0,1,1;m1,2,2;").older(), 2);
        Due.due("one alone", Due.laid("t0,0,1,0;m1,2,2;").older(), 1);
        Due.due("nothing is lost by then: one order of none", Due.laid("t0,0,9,0;m8,2,2;").older(), 1);
        Due.due("ten", Due.laid(TEN + "m1,2,2;").older(), 3628800);
        Due.due("ten, but a year ahead", Due.laid(TEN + "m0,2,2;").older(), 1);
        Due.due("never is not lost by 99", Due.laid("t0,0,99,0;t1,0,99,0;m99,2,2;").older(), 1);
        Due.due("98 is lost by 98", Due.laid("t0,0,98,0;t1,0,98,0;m98,2,2;").older(), 2);
        Due.due("what is lost by now does not matter", Due.laidIn(9, FIVE + "m2,2,2;").older(), 2);
    }

    private static void ordersByMaps() {
        Due.says(20, "so that each was or was not LOST by the YEAR of each MAP as it was.");
        Due.due("two maps", Due.laid(FIVE + "m5,2,2;m2,0,1;").older(), 4);
        Due.due("two maps, told the other way", Due.laid(FIVE + "m2,0,1;m5,2,2;").older(), 4);
        Due.due("two of one year", Due.laid(FIVE + "m5,2,2;m5,0,1;").older(), 24);
        Due.due("a map of year 0", Due.laid(FIVE + "m5,2,2;m0,2,2;").older(), 24);
        Due.due("a map for each", Due.laid(FIVE + "m3,2,2;m1,2,2;m2,2,2;").older(), 1);
        Due.due("five maps", Due.laid(FIVE + "m1,2,2;m2,2,2;m3,2,2;m4,2,2;m5,2,2;").older(), 1);
        OnlyWhatIsLost x = Due.laid(FIVE + "m5,2,2;m2,0,1;");
        x.burn(4);
        Due.due("by what is known now", x.older(), 6);
        x.undo();
        Due.due("as it was", x.older(), 4);
    }

    private static void noMap() {
        Due.says(20, "OLDER. NONE: there is no MAP.");
        Due.idle("no map", () -> Due.laid("t0,0,1,0;"), OnlyWhatIsLost::older, NONE);
        Due.idle("two maps", Due::busy, OnlyWhatIsLost::older, 6);
    }

    // ---- promises 21 and 22

    private static void seeing() {
        Due.says(21, "SEEN: how many.");
        OnlyWhatIsLost x = new OnlyWhatIsLost();
        Due.due("seen(0)", x.seen(0), 1);
        Due.due("seen(24)", x.seen(24), 2);
        Due.due("seen(24) again", x.seen(24), 3);
        Due.due("count(6)", x.count(6), 3);
        Due.due("the last cell of all", Due.laid("r8,8;t0,0,1,0;").seen(63), 1);
        Due.says(21, "BAD;");
        Due.bad("seen(_)", Due::busy, OnlyWhatIsLost::seen, -1, 25);
        Due.bad("seen(_) of what is found", MapsTest::foundOnce, OnlyWhatIsLost::seen, -1, 25, 64, -64);
    }

    /** CELL 12 alone is SEEN, and one hand shows it: another CELL that were SEEN would be noticed. */
    private static OnlyWhatIsLost foundOnce() {
        OnlyWhatIsLost x = Due.laidIn(1, "t12,0,1,0;");
        x.seen(12);
        return x;
    }

    private static void seeingTwelve() {
        Due.says(21, "SEEN (12 at most) is that a CELL is drawn on a map that is found.");
        OnlyWhatIsLost x = foundOnce();
        for (int k = 2; k <= 12; k++) {
            Due.due("seen(12), for the " + k + "th time", x.seen(12), k);
        }
        Due.due("found", x.found(0), 1);
        Due.says(21, "FULL.");
        Due.due("a thirteenth", x.seen(12), FULL);
        Due.due("another cell", x.seen(0), FULL);
        Due.due("it is not seen", x.found(0), 1);
        Due.due("count(6)", x.count(6), 12);
        Due.due("BAD ahead of FULL", x.seen(25), BAD);
        Due.due("BAD ahead of FULL", x.seen(-1), BAD);
        Due.idle("a thirteenth", MapsTest::twelveSeen, y -> y.seen(1), FULL);
    }

    private static OnlyWhatIsLost twelveSeen() {
        OnlyWhatIsLost x = new OnlyWhatIsLost();
        for (int cell = 0; cell < 12; cell++) {
            x.seen(cell);
        }
        return x;
    }

    private static void forgetting() {
        Due.says(22, "Nothing is SEEN: how many were.");
        OnlyWhatIsLost x = foundOnce();
        x.seen(12);
        Due.due("the same one twice", x.forget(), 2);
        Due.due("no more", x.forget(), 0);
        Due.due("count(6)", x.count(6), 0);
        Due.due("no cell is seen", x.found(1), 0);
        Due.due("at first", new OnlyWhatIsLost().forget(), 0);
        OnlyWhatIsLost y = twelveSeen();
        Due.due("twelve", y.forget(), 12);
        Due.due("room again", y.seen(4), 1);
        OnlyWhatIsLost busy = Due.busy();
        busy.forget();
        Due.due("what can be undone stays", busy.count(7), 3);
        Due.due("what is kept stays", busy.count(8), 1);
        Due.due("the text stays", busy.count(9), 10);
    }

    // ---- promise 23

    private static void finding() {
        Due.says(23, "a MAP would show just those CELLS that are SEEN, and no others;");
        OnlyWhatIsLost x = Due.laidIn(4, "r3,3;t4,0,1,0;t8,0,3,0;t0,0,2,3;");
        // Nothing in YEAR 0; 16 hands lose the middle CELL; 11 of these lose the corner, too.
        Due.due("nothing is seen", x.found(0), 25 + 16 + 16 + 11 + 11);
        x.seen(4);
        Due.due("one alone, ahead of the other's fall", x.found(0), 2);
        x.seen(4);
        Due.due("seen twice", x.found(0), 2);
        x.seen(8);
        Due.due("two", x.found(0), 2);
        Due.due("the first", x.found(1), 75 + 12);
        x.seen(0);
        Due.due("a secret one is not shown", x.found(0), 0);
        OnlyWhatIsLost moved = Due.laidIn(1, "r2,3;t3,0,1,2;");
        moved.seen(5);
        Due.due("a moved one, by a hand that errs", moved.found(1), 25 + 10 + 3);
        OnlyWhatIsLost ten = Due.laidIn(1, TEN);
        for (int cell = 0; cell < 10; cell++) {
            ten.seen(cell);
        }
        Due.due("ten", ten.found(1), 25 + 12);
    }

    private static void yearsAndHands() {
        Due.says(23, "FOUND: for how many YEARS (0 to this one) and hands (25 for each YEAR)");
        Due.due("year 0", Due.laid("t0,0,99,0;").found(0), 25);
        Due.due("year 98", Due.laidIn(98, "t0,0,99,0;").found(0), 99 * 25);
        OnlyWhatIsLost x = Due.laid("t12,0,1,0;");
        x.seen(12);
        Due.due("not by a year to come", x.found(0), 0);
        x.pass(1);
        Due.due("this year, too", x.found(0), 1);
        x.pass(1);
        Due.due("two years", x.found(0), 2);
        OnlyWhatIsLost burnt = Due.laid("t12,0,9,0;");
        burnt.burn(0);
        burnt.seen(12);
        Due.due("year 0, too", burnt.found(1), 12);
        Due.says(23, "the first, as 25 times the YEAR, 5 times D, and E, together; none.");
        for (int down = 0; down <= 4; down++) {
            for (int right = 0; right <= 4; right++) {
                OnlyWhatIsLost y = Due.laidIn(2, "t12,0,1,0;");
                y.seen(12 + 5 * (down - 2) + right - 2);
                Due.due("D " + down + ", E " + right, y.found(1), 25 + 5 * down + right);
                Due.due("in two years", y.found(0), 2);
            }
        }
        OnlyWhatIsLost last = Due.laidIn(98, "t12,0,98,0;");
        last.seen(24);
        Due.due("the last hand of the last year", last.found(1), 25 * 98 + 24);
        Due.due("it alone", last.found(0), 1);
        Due.due("the first of several is that of year 0", Due.laidIn(98, "t0,0,99,0;").found(1), 0);
    }

    private static void notFinding() {
        Due.says(23, "FOUND: how many (what = 0), the lowest (1; NONE).");
        Due.idle("how many", Due::busy, x -> x.found(0), 0);
        Due.idle("the lowest", Due::busy, x -> x.found(1), NONE);
        Due.idle("the lowest of one", MapsTest::foundOnce, x -> x.found(1), 37);
        Due.says(23, "BAD.");
        Due.bad("found(_)", Due::busy, OnlyWhatIsLost::found, -1, 2);
    }
}
