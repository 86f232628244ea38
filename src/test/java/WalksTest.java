/** Promises 15 to 18: way, sure, pull, wander. */
public final class WalksTest {
    private static final int BAD = OnlyWhatIsLost.BAD;
    private static final int NONE = OnlyWhatIsLost.NONE;
    /** Ten things on ten cells: nothing is free. */
    private static final String FULL_LAND = "r2,5;t0,0,98,_;t1,0,98,_;t2,0,98,_;t3,0,98,_;t4,0,98,_;"
        + "t5,0,98,_;t6,0,98,_;t7,0,98,_;t8,0,98,_;t9,0,98,_;";

    public static void main(String[] args) {
        besides();
        ends();
        freeOfThisYear();
        noWay();
        sure();
        notSure();
        pulls();
        pullsOfAll();
        friends();
        friendsByKind();
        notPulled();
        wanders();
        prices();
        firstSteps();
        farthest();
        noWander();
        Due.end();
    }

    // ---- promise 15

    private static void besides() {
        Due.says(15, "Walks go from CELL to CELL beside it (up, down, right, left),");
        OnlyWhatIsLost x = Due.laid("r3,3;t0,8,9,1;");
        for (int cell : new int[] {1, 3, 5, 7}) {
            Due.due("way(4, " + cell + ")", x.way(4, cell), 1);
            Due.due("way(" + cell + ", 4)", x.way(cell, 4), 1);
        }
        for (int cell : new int[] {0, 2, 6, 8}) {
            Due.due("way(4, " + cell + ")", x.way(4, cell), 2);
        }
        Due.due("not athwart", Due.laid("r2,2;t1,0,9,1;t2,0,9,1;").way(0, 3), NONE);
        Due.due("not athwart", Due.laid("r2,2;t0,0,9,1;t3,0,9,1;").way(1, 2), NONE);
        OnlyWhatIsLost columns = Due.laid("r2,3;t1,0,9,1;t4,0,9,1;");
        Due.due("the end of a row is not beside the next row", columns.way(2, 3), NONE);
        Due.due("nor beside its own first cell", columns.way(0, 2), NONE);
        OnlyWhatIsLost rows = Due.laid("r3,2;t2,0,9,1;t3,0,9,1;");
        Due.due("the last row is not beside the first one", rows.way(4, 0), NONE);
        Due.due("nor at its end", rows.way(5, 1), NONE);
    }

    private static void ends() {
        Due.says(15, "from a to b, both counted as CELLS of it:");
        OnlyWhatIsLost x = Due.laid("r2,2;t3,0,9,1;");
        Due.due("to where one is", x.way(0, 0), 0);
        Due.due("one on", x.way(0, 1), 1);
        Due.due("round the corner", x.way(1, 2), 2);
        Due.says(15, "through FREE CELLS of this YEAR (a and b, too):");
        Due.due("from what is not free", x.way(3, 1), NONE);
        Due.due("to what is not free", x.way(1, 3), NONE);
        Due.due("where one can't be", x.way(3, 3), NONE);
        Due.says(15, "WAY: the fewest steps; none.");
        Due.due("from corner to corner", Due.laid("r8,8;t1,9,10,1;").way(0, 63), 14);
        Due.due("and back", Due.laid("r8,8;t1,9,10,1;").way(63, 0), 14);
        OnlyWhatIsLost around = Due.laid("r3,3;t1,0,9,1;t4,0,9,0;");
        Due.due("around", around.way(0, 2), 6);
        Due.due("back", around.way(2, 0), 6);
        Due.due("2 rows of 8", Due.laid("r2,8;t1,0,9,1;").way(0, 2), 4);
        Due.due("8 rows of 2", Due.laid("r8,2;t2,0,9,1;").way(0, 4), 4);
        Due.due("to and fro", Due.laid("r6,5;t5,0,9,1;t6,0,9,1;t7,0,9,1;t8,0,9,1;"
            + "t16,0,9,1;t17,0,9,1;t18,0,9,1;t19,0,9,1;").way(0, 29), 17);
        Due.due("no cell is free", full(1).way(0, 9), NONE);
    }

    private static OnlyWhatIsLost full(int kind) {
        return Due.laid(FULL_LAND.replace("_", "" + kind));
    }

    private static void freeOfThisYear() {
        Due.says(15, "through FREE CELLS of this YEAR (a and b, too):");
        OnlyWhatIsLost x = Due.laid("r2,2;t1,1,3,0;t2,0,99,1;");
        int[] due = {2, NONE, NONE, 2, 2};
        for (int year = 0; year < due.length; year++) {
            Due.due("way(0, 3) in " + year, x.way(0, 3), due[year]);
            x.pass(1);
        }
        x.build(0);
        Due.due("built on a", x.way(0, 3), NONE);
        x.burn(2);
        Due.due("burnt", x.way(0, 3), 2);
        for (int kind = 0; kind <= 3; kind++) {
            Due.due("kind " + kind + " stands", Due.laid("r2,2;t1,0,9," + kind + ";t2,0,9,1;").way(0, 3), NONE);
        }
        Due.due("one right of a moved one that stands", Due.laid("r2,3;t0,0,9,2;t4,0,9,1;").way(1, 2), 1);
    }

    private static void noWay() {
        Due.says(15, "WAY. NONE;");
        Due.idle("way(6, 0)", OnlyWhatIsLost::new, x -> x.way(6, 0), NONE);
        Due.idle("way(5, 24)", Due::busy, x -> x.way(5, 24), 7);
        Due.says(15, "BAD.");
        Due.bad("way(_, 1)", Due::busy, (x, a) -> x.way(a, 1), -1, 25);
        Due.bad("way(1, _)", Due::busy, (x, b) -> x.way(1, b), -1, 25);
        Due.due("BAD ahead of NONE", Due.busy().way(6, 25), BAD);
        Due.due("BAD ahead of NONE", Due.busy().way(25, 6), BAD);
        Due.due("the same one twice", Due.busy().way(25, 25), BAD);
    }

    // ---- promise 16

    private static void sure() {
        Due.says(16, "SURE by a MAP: through CELLS alone which it shows, whether it is right or not: the fewest steps; none.");
        OnlyWhatIsLost x = Due.laid("r3,3;t0,0,1,0;t1,0,1,0;t2,0,1,0;t5,0,1,0;t8,0,9,0;m1,2,2;m1,3,2;m9,2,2;");
        Due.due("along", x.sure(0, 0, 5), 3);
        Due.due("back", x.sure(0, 5, 0), 3);
        Due.due("to where one is", x.sure(0, 5, 5), 0);
        Due.due("free, but not shown", x.sure(0, 4, 4), NONE);
        Due.due("from a cell not shown", x.sure(0, 4, 5), NONE);
        Due.due("to a cell not shown", x.sure(0, 5, 8), NONE);
        Due.due("shown where it is false", x.sure(1, 3, 8), 3);
        Due.due("shown where something stands", x.sure(2, 0, 8), 4);
        Due.due("not through a gap", Due.laid("r2,3;t0,0,1,0;t2,0,1,0;m1,2,2;").sure(0, 0, 2), NONE);
        Due.due("not athwart", Due.laid("r2,2;t0,0,1,0;t3,0,1,0;m1,2,2;").sure(0, 0, 3), NONE);
        Due.due("not on in the next row", Due.laid("r2,3;t2,0,1,0;t3,0,1,0;m1,2,2;").sure(0, 2, 3), NONE);
        Due.due("a map that shows all", full(1).count(2), 0);
        OnlyWhatIsLost all = Due.laid(FULL_LAND.replace("_", "1") + "m98,2,2;m97,2,2;");
        Due.due("all is shown", all.sure(0, 0, 9), 5);
        Due.due("nothing is shown", all.sure(1, 0, 9), NONE);
        Due.due("nothing is shown where one is", all.sure(1, 0, 0), NONE);
    }

    private static void notSure() {
        Due.says(16, "SURE. NONE;");
        Due.idle("sure(0, 0, 24)", Due::busy, x -> x.sure(0, 0, 24), NONE);
        Due.idle("sure(0, 12, 12)", Due::busy, x -> x.sure(0, 12, 12), 0);
        Due.says(16, "BAD.");
        Due.bad("sure(_, 0, 0)", Due::busy, (x, m) -> x.sure(m, 0, 0), -1, 2);
        Due.bad("sure(0, _, 0)", Due::busy, (x, a) -> x.sure(0, a, 0), -1, 25);
        Due.bad("sure(0, 0, _)", Due::busy, (x, b) -> x.sure(0, 0, b), -1, 25);
        Due.due("no map at all", Due.laid("t0,0,1,0;").sure(0, 0, 0), BAD);
    }

    // ---- promise 17

    private static void pulls() {
        Due.says(17, "PULL: the fewest THINGS (WALLS, too) that STAND now without which there would be a WAY;");
        OnlyWhatIsLost x = Due.laid("r2,5;t1,0,9,1;t6,0,9,0;t2,0,9,0;t3,0,9,3;t8,0,9,2;t4,2,9,1;");
        Due.due("through walls, too", x.pull(0, 4, false), 2);
        Due.due("from and to are counted", x.pull(1, 3, false), 3);
        Due.due("nothing to pull", x.pull(0, 5, false), 0);
        Due.due("one alone", x.pull(1, 1, false), 1);
        Due.due("none alone", x.pull(0, 0, false), 0);
        Due.due("ahead of B", x.pull(4, 4, false), 0);
        x.pass(2);
        Due.due("what stands now", x.pull(0, 4, false), 3);
        x.pass(6);
        Due.due("in the year ahead of F", x.pull(0, 4, false), 3);
        x.pass(1);
        Due.due("in F nothing stands", x.pull(0, 4, false), 0);
    }

    private static void pullsOfAll() {
        Due.says(17, "PULL (friend = false),");
        for (int kind = 0; kind <= 3; kind++) {
            Due.due("six of ten, kind " + kind, full(kind).pull(0, 9, false), 6);
            Due.due("five of ten, kind " + kind, full(kind).pull(5, 9, false), 5);
            Due.due("one of ten, kind " + kind, full(kind).pull(9, 9, false), 1);
        }
        Due.due("a long walk ahead of a thing", Due.laid("r8,8;t1,0,9,1;t9,0,9,1;t17,0,9,1;t25,0,9,1;t33,0,9,1;"
            + "t41,0,9,1;t49,0,9,1;").pull(0, 2, false), 0);
        // A way out of it leads round the things, long behind the ones that lead through them.
        OnlyWhatIsLost bay = Due.laid("r8,8;t59,0,9,1;t30,0,9,1;t53,0,9,1;t54,0,9,1;t45,0,9,1;"
            + "t60,0,9,1;t39,0,9,1;t52,0,9,1;t31,0,9,1;t29,0,9,1;");
        for (int cell = 0; cell < 64; cell++) {
            Due.due("pull(" + cell + ", 61, false)", bay.pull(cell, 61, false), bay.at(cell) == NONE ? 0 : 1);
        }
        Due.idle("pull(7, 3, false)", Due::busy, x -> x.pull(7, 3, false), 2);
    }

    private static void friends() {
        Due.says(17, "FRIEND: the fewest THINGS that have to be BURNT this YEAR so that through CELLS alone that are drawn,"
            + " TRUE to this YEAR, there is a walk; none.");
        OnlyWhatIsLost x = Due.laid("r2,5;t0,0,1,0;t1,0,9,0;t2,0,9,2;t4,0,9,0;t6,0,9,3;t5,0,9,1;t7,0,9,0;t8,0,9,2;");
        Due.due("nothing is drawn yet", x.pull(0, 1, true), 2);
        x.pass(1);
        Due.due("drawn already", x.pull(0, 0, true), 0);
        Due.due("one more", x.pull(0, 1, true), 1);
        Due.due("on to the next row", x.pull(3, 9, true), 3);
        Due.due("what nobody draws", x.pull(8, 9, true), NONE);
        x.burn(1);
        Due.due("burnt already", x.pull(0, 1, true), 0);
        OnlyWhatIsLost y = Due.laid("r2,2;t0,2,4,0;t1,0,4,0;");
        Due.due("it does not stand yet", y.pull(0, 1, true), NONE);
        y.pass(2);
        Due.due("it stands", y.pull(0, 1, true), 2);
        y.pass(2);
        Due.due("it is lost", y.pull(0, 1, true), 0);
        Due.due("six of ten", full(0).pull(0, 9, true), 6);
        Due.due("one of ten", full(0).pull(9, 9, true), 1);
        Due.due("no thing is there", Due.laid("r2,2;t0,0,9,0;").pull(3, 3, true), NONE);
        Due.due("not athwart", Due.laid("r2,2;t0,0,9,0;t3,0,9,0;").pull(0, 3, true), NONE);
        Due.due("not on in the next row", Due.laid("r2,3;t2,0,9,0;t3,0,9,0;").pull(2, 3, true), NONE);
    }

    private static void friendsByKind() {
        Due.says(17, "FRIEND (true).");
        Due.due("a wall can't be burnt", full(1).pull(0, 0, true), NONE);
        Due.due("a secret one is not drawn", full(3).pull(0, 0, true), NONE);
        Due.due("a moved one is not drawn at its own cell", full(2).pull(0, 0, true), NONE);
        Due.due("a moved one is drawn right of it", full(2).pull(1, 1, true), 1);
        Due.due("two moved ones", full(2).pull(1, 2, true), 2);
        Due.due("two moved ones can be drawn at the end", full(2).pull(4, 4, true), 1);
        OnlyWhatIsLost end = Due.laid("r2,2;t1,0,9,2;t0,0,9,2;");
        Due.due("at the end of a row at its own", end.pull(1, 1, true), 1);
        Due.due("both would be drawn at one cell", end.pull(0, 1, true), NONE);
        OnlyWhatIsLost lost = Due.laidIn(1, "r2,2;t0,0,1,1;t1,0,1,1;t3,1,9,0;t2,0,1,3;");
        Due.due("lost walls are drawn", lost.pull(0, 1, true), 0);
        Due.due("and a house", lost.pull(0, 3, true), 1);
        Due.due("lost secrets are not", lost.pull(0, 2, true), NONE);
        OnlyWhatIsLost over = Due.laidIn(1, "r2,2;t0,0,1,2;t1,0,9,1;");
        Due.due("drawn where a wall stands", over.pull(1, 1, true), 0);
    }

    private static void notPulled() {
        Due.says(17, "NONE;");
        Due.idle("pull(5, 7, true)", Due::busy, x -> x.pull(5, 7, true), NONE);
        Due.says(17, "BAD.");
        Due.bad("pull(_, 0, false)", Due::busy, (x, a) -> x.pull(a, 0, false), -1, 25);
        Due.bad("pull(0, _, false)", Due::busy, (x, b) -> x.pull(0, b, false), -1, 25);
        Due.bad("pull(_, 0, true)", Due::busy, (x, a) -> x.pull(a, 0, true), -1, 25);
        Due.bad("pull(0, _, true)", Due::busy, (x, b) -> x.pull(0, b, true), -1, 25);
    }

    // ---- promise 18

    private static void wanders() {
        Due.says(18, "WANDER from a to b by a MAP: at each CELL one sees which of those beside it are not FREE, and remembers it.");
        Due.due("what is above is seen", Due.laid("r3,3;t4,0,9,1;m0,2,2;").wander(0, 7, 1), 4);
        OnlyWhatIsLost x = Due.laid("r4,5;t3,0,9,1;t8,0,9,1;t13,0,9,1;m0,2,2;");
        Due.due("along the wall till its end", x.wander(0, 2, 4), 8);
        Due.due("into the pocket and out", Due.laid("r4,4;t6,0,9,1;t9,0,9,1;t2,0,9,1;m0,2,2;").wander(0, 5, 7), 10);
        // The map shows 0 alone: 2 1 for it, where 0 and 5 are seen, then 2 6 10 9 8 4; known ahead, 6 would be first.
        String corner = "r3,4;t0,0,99,1;t5,0,99,1;t1,0,1,0;m1,2,1;";
        Due.due("what is not beside is not seen, even CELL 0", Due.laidIn(1, corner).wander(0, 2, 4), 7);
        Due.due("what does not stand yet is not seen", Due.laid("r3,3;t4,1,9,1;m0,2,2;").wander(0, 7, 1), 2);
        Due.due("nor what is lost", Due.laidIn(9, "r3,3;t4,0,9,1;m0,2,2;").wander(0, 7, 1), 2);
        Due.says(18, "Of walks to b that are not through CELLS that one remembers so, the cheapest is taken,");
        // 6 is seen from 5 alone, 3 from 2 alone: 0 4 5 1 2, and back by 1 5 9 10 11 to 7.
        String shut = "r3,4;t3,0,9,1;t6,0,9,1;m0,2,2;";
        Due.due("what is not seen yet is hoped for", Due.laid(shut).wander(0, 0, 7), 10);
    }

    private static void prices() {
        Due.says(18, "each CELL that is come to costing 1, if the MAP shows it, else 2;");
        // The row below makes the longer walk the cheaper one: 5 at 1 and 1 at 2, not 4 at 2.
        String road = "r2,5;t5,0,1,0;t6,0,1,0;t7,0,1,0;t8,0,1,0;t9,0,1,0;m1,2,2;m0,2,2;";
        OnlyWhatIsLost x = Due.laidIn(1, road);
        Due.due("shown cells cost 1", x.wander(0, 0, 4), 6);
        Due.due("all cost 2", x.wander(1, 0, 4), 4);
        Due.due("shown, but it stands", Due.laid(road).wander(0, 0, 4), 4);
        // One row of three: 3 at 1 and 1 at 2 below, 2 at 2 above: the straight one.
        String shorter = "r2,3;t3,0,1,0;t4,0,1,0;t5,0,1,0;m1,2,2;";
        Due.due("2 at 2 are cheaper than 3 at 1 and 1 at 2", Due.laidIn(1, shorter).wander(0, 0, 2), 2);
        // Four in a row: 3 at 2 above, 4 at 1 and 1 at 2 below: the same, and down is ahead of right.
        String even = "r2,4;t4,0,1,0;t5,0,1,0;t6,0,1,0;t7,0,1,0;m1,2,2;";
        Due.due("3 at 2 cost as much as 4 at 1 and 1 at 2", Due.laidIn(1, even).wander(0, 0, 3), 5);
        Due.due("along what is shown", Due.laidIn(1, even).wander(0, 4, 7), 3);
    }

    private static void firstSteps() {
        Due.says(18, "of several that whose first step is up, else down, else right, else left;");
        // Both walks round the wall cost the same: up first, and there another one shuts the row.
        Due.due("up ahead of down", Due.laid("r3,4;t5,0,9,1;t2,0,9,1;m0,2,2;").wander(0, 4, 6), 8);
        Due.due("up, and nothing is there", Due.laid("r3,4;t5,0,9,1;t10,0,9,1;m0,2,2;").wander(0, 4, 6), 4);
        Due.due("up ahead of right", Due.laid("r3,3;t4,0,9,1;t1,0,9,1;m0,2,2;").wander(0, 6, 2), 8);
        Due.due("down ahead of right", Due.laid("r3,3;t4,0,9,1;t7,0,9,1;m0,2,2;").wander(0, 0, 8), 8);
        Due.due("down ahead of left", Due.laid("r3,3;t4,0,9,1;t7,0,9,1;m0,2,2;").wander(0, 2, 6), 8);
        Due.due("right ahead of left", Due.laid("r4,5;t7,0,9,1;t8,0,9,1;t6,0,9,1;t3,0,9,1;m0,2,2;").wander(0, 2, 12), 6);
        Due.due("up ahead of left", Due.laid("r3,3;t4,0,9,1;t1,0,9,1;m0,2,2;").wander(0, 8, 0), 8);
        Due.says(18, "and one step of it is done.");
        Due.due("one step, then it is seen anew", Due.laid("r3,5;t7,0,9,1;t12,0,9,1;m0,2,2;").wander(0, 10, 14), 8);
    }

    private static void farthest() {
        Due.says(18, "In how many steps one is there (0 to 200);");
        OnlyWhatIsLost x = Due.laid("r2,2;t1,0,9,1;t2,0,9,1;m0,2,2;");
        Due.due("to where one is", x.wander(0, 0, 0), 0);
        Due.due("one step", Due.laid("r2,2;t1,0,9,1;m0,2,2;").wander(0, 0, 2), 1);
        Due.due("from corner to corner", Due.laid("r8,8;t1,9,10,1;m0,2,2;").wander(0, 0, 63), 14);
        // The farthest one that a search among lands has met with.
        OnlyWhatIsLost far = Due.laid("r8,8;t45,0,99,1;t44,0,99,1;t51,0,99,1;t9,0,99,1;t54,0,99,1;"
            + "t35,0,99,1;t60,0,99,1;t18,0,99,1;t50,0,99,1;t27,0,99,1;m1,0,2;");
        Due.due("astray", far.wander(0, 7, 52), 63);
        Due.due("and the way", far.way(7, 52), 11);
    }

    private static void noWander() {
        Due.says(18, "none (no such walk is left; a or b is not FREE).");
        OnlyWhatIsLost x = Due.laid("r3,5;t1,0,9,1;t3,0,9,1;t8,0,9,1;t13,0,9,1;m0,2,2;");
        Due.due("a is not free", x.wander(0, 1, 2), NONE);
        Due.due("b is not free", x.wander(0, 2, 1), NONE);
        Due.due("neither, being one", x.wander(0, 1, 1), NONE);
        Due.due("shut off, after all is seen", x.wander(0, 2, 4), NONE);
        Due.due("shut off, and it is seen at once", x.wander(0, 4, 2), NONE);
        OnlyWhatIsLost corner = Due.laid("r2,2;t1,0,9,1;t2,0,9,1;m0,2,2;");
        Due.due("no first step", corner.wander(0, 0, 3), NONE);
        OnlyWhatIsLost full = Due.laid(FULL_LAND.replace("_", "0") + "m98,2,2;");
        Due.due("nothing is free, though all is shown", full.wander(0, 0, 9), NONE);
        Due.says(18, "WANDER. NONE;");
        Due.idle("wander(0, 6, 1)", Due::busy, y -> y.wander(0, 6, 1), NONE);
        Due.idle("wander(0, 5, 24)", Due::busy, y -> y.wander(0, 5, 24), 7);
        Due.says(18, "BAD.");
        Due.bad("wander(_, 1, 2)", Due::busy, (y, m) -> y.wander(m, 1, 2), -1, 2);
        Due.bad("wander(0, _, 2)", Due::busy, (y, a) -> y.wander(0, a, 2), -1, 25);
        Due.bad("wander(0, 2, _)", Due::busy, (y, b) -> y.wander(0, 2, b), -1, 25);
        Due.due("BAD ahead of NONE", Due.busy().wander(2, 6, 1), BAD);
        Due.due("BAD ahead of NONE", Due.busy().wander(0, 6, 25), BAD);
        Due.due("no map at all", Due.laid("t0,0,1,0;").wander(0, 1, 1), BAD);
    }
}
