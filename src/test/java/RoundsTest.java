/** Promises 24 to 26: round, fire, land. */
public final class RoundsTest {
    private static final int BAD = OnlyWhatIsLost.BAD;
    private static final int NONE = OnlyWhatIsLost.NONE;
    private static final String EIGHT =
        "r2,5;t0,0,1,0;t1,0,1,0;t2,0,1,0;t3,0,1,0;t4,0,1,0;t5,0,1,0;t6,0,1,0;t7,0,1,0;";

    public static void main(String[] args) {
        rounds();
        stops();
        noRound();
        fires();
        firesOfWhatCanBurn();
        noFire();
        landsOfOneYear();
        landsOfManyYears();
        landsPastTheLastYear();
        burntIfItCanBe();
        noLand();
        Due.end();
    }

    // ---- promise 24

    private static void rounds() {
        Due.says(24, "from one to another being as far as rows and columns together: how far at the least;");
        OnlyWhatIsLost x = Due.laidIn(2, "r8,8;t0,0,2,0;t7,0,2,1;t63,0,2,2;t56,0,2,3;t27,0,3,0;t36,0,9,0;");
        Due.due("the four corners from one of them", x.round(0), 28);
        Due.due("the four corners from within", x.round(27), 6 + 21 + 7);
        x.pass(1);
        Due.due("there and back", x.round(0), 12);
        Due.due("at the place itself", x.round(27), 0);
        Due.says(24, "to the CELLS of all THINGS whose F is this YEAR and back to it, whatever stands between,");
        x.burn(5);
        Due.due("burnt, too", x.round(27), 4);
        Due.due("a wall stands between", Due.laidIn(1, "r2,3;t2,0,1,0;t1,0,9,1;t4,0,9,1;").round(0), 4);
        Due.due("a wall stands at the cell itself", Due.laidIn(1, "r2,3;t2,0,1,0;t0,0,9,1;").round(0), 4);
        Due.due("a moved one was at its own cell", Due.laidIn(1, "r2,3;t1,0,1,2;").round(0), 2);
        Due.due("a secret one, too", Due.laidIn(1, "r2,3;t1,0,1,3;").round(0), 2);
        OnlyWhatIsLost zero = Due.laid("t24,0,9,0;");
        zero.burn(0);
        Due.due("in year 0", zero.round(0), 16);
        OnlyWhatIsLost last = Due.laidIn(98, "t24,0,98,0;t0,0,99,0;");
        Due.due("in year 98", last.round(0), 16);
    }

    private static void stops() {
        Due.says(24, "none (there is no such THING; more than 8).");
        OnlyWhatIsLost x = Due.laid("t0,0,2,0;");
        Due.due("the year ahead", x.round(0), NONE);
        x.pass(2);
        Due.due("its year", x.round(0), 0);
        x.pass(1);
        Due.due("the year behind", x.round(0), NONE);
        Due.due("never", Due.laidIn(98, "t0,0,99,0;").round(0), NONE);
        OnlyWhatIsLost y = Due.laidIn(1, EIGHT + "t8,0,9,0;t9,0,9,0;");
        Due.due("eight", y.round(9), 10);
        y.burn(8);
        Due.due("nine", y.round(9), NONE);
        y.burn(9);
        Due.due("ten", y.round(9), NONE);
        y.undo();
        y.undo();
        Due.due("eight again", y.round(0), 10);
    }

    private static void noRound() {
        Due.says(24, "ROUND from a CELL:");
        OnlyWhatIsLost x = Due.laidIn(1, "r8,8;t0,0,1,0;");
        Due.due("the first", x.round(0), 0);
        Due.due("the last", x.round(63), 28);
        Due.says(24, "ROUND. NONE;");
        Due.idle("none falls", () -> Due.laid("t0,0,2,0;"), y -> y.round(0), NONE);
        Due.idle("nine fall", () -> Due.laidIn(1, EIGHT + "t8,0,1,0;"), y -> y.round(0), NONE);
        Due.idle("one falls", Due::busy, y -> y.round(0), 8);
        Due.says(24, "BAD.");
        Due.bad("round(_)", Due::busy, OnlyWhatIsLost::round, -1, 25);
        Due.due("BAD ahead of NONE", Due.laid("t0,0,2,0;").round(25), BAD);
    }

    // ---- promise 25

    private static void fires() {
        Due.says(25, "FIRE for a WAY from a to b: of THINGS that can be BURNT now that by which the WAY would be shortest,");
        OnlyWhatIsLost x = Due.laid("r3,5;t2,0,9,1;t7,0,9,0;t12,0,9,3;t1,0,9,0;");
        Due.due("7, for a way along the middle row", x.fire(0, 4, 0), 1);
        Due.due("12, for a way along the last row", x.fire(10, 14, 0), 2);
        Due.due("the cell of a itself", x.fire(1, 0, 0), 3);
        Due.due("the cell of b itself", x.fire(0, 1, 0), 3);
        Due.due("a and b are one", x.fire(1, 1, 0), 3);
        Due.due("the first thing", Due.laid("r2,2;t0,0,9,2;t1,0,9,1;").fire(0, 2, 0), 0);
        Due.due("not the lowest, but the one for the shortest", Due.laid("r3,3;t7,0,9,0;t1,0,9,0;t4,0,9,1;").fire(0, 2, 0), 1);
        Due.says(25, "of several the lowest,");
        Due.due("by either row", x.fire(6, 13, 0), 1);
        Due.due("told the other way", Due.laid("r3,5;t2,0,9,1;t12,0,9,3;t7,0,9,0;t1,0,9,0;").fire(6, 13, 0), 1);
        Due.says(25, "if it is shorter than now (or there is none now):");
        Due.due("there is none now", x.fire(0, 4, 1), 6);
        Due.due("as short as now", Due.laid("r3,3;t4,0,9,0;").fire(0, 8, 0), NONE);
        Due.due("as short as now", Due.laid("r3,3;t4,0,9,0;").fire(0, 8, 1), NONE);
        Due.due("shorter than now", Due.laid("r3,3;t4,0,9,0;").fire(3, 5, 0), 0);
        Due.due("the way then", Due.laid("r3,3;t4,0,9,0;").fire(3, 5, 1), 2);
        Due.due("nothing is shorter than none", Due.laid("r3,3;t4,0,9,0;").fire(0, 0, 0), NONE);
        Due.says(25, "FIRE: the THING (what = 0), the WAY (1).");
        Due.due("the thing", x.fire(10, 14, 0), 2);
        Due.due("the way", x.fire(10, 14, 1), 4);
        Due.due("a way of 0", x.fire(1, 1, 1), 0);
        Due.due("a way of 1", x.fire(1, 0, 1), 1);
        Due.says(25, "it; the WAY then; none.");
        x.burn(1);
        Due.due("it", x.fire(10, 14, 0), 2);
        x.burn(2);
        Due.due("none is shorter", x.fire(10, 14, 0), NONE);
        Due.due("none is shorter", x.fire(10, 14, 1), NONE);
    }

    private static void firesOfWhatCanBurn() {
        Due.says(25, "of THINGS that can be BURNT now");
        String row = "r2,3;t4,0,99,1;t1,";
        Due.due("a wall can't be", Due.laid(row + "0,9,1;").fire(0, 2, 0), NONE);
        Due.due("a wall at the cell of a can't be", Due.laid(row + "0,9,1;").fire(1, 1, 0), NONE);
        for (int kind : new int[] {0, 2, 3}) {
            Due.due("kind " + kind + " can be", Due.laid(row + "0,9," + kind + ";").fire(0, 2, 0), 1);
        }
        Due.due("it does not stand yet", Due.laidIn(1, row + "2,4,0;").fire(0, 2, 0), NONE);
        Due.due("from B on", Due.laidIn(2, row + "2,4,0;").fire(0, 2, 0), 1);
        Due.due("till F", Due.laidIn(3, row + "2,4,0;").fire(0, 2, 0), 1);
        Due.due("it is lost", Due.laidIn(4, row + "2,4,0;").fire(0, 2, 0), NONE);
        Due.due("one is not enough", Due.laid("r2,4;t1,0,9,0;t2,0,9,0;t5,0,9,1;").fire(0, 3, 0), NONE);
    }

    private static void noFire() {
        Due.says(25, "NONE;");
        Due.idle("fire(8, 9, 0)", Due::busy, x -> x.fire(8, 9, 0), NONE);
        Due.idle("fire(8, 9, 1)", Due::busy, x -> x.fire(8, 9, 1), NONE);
        Due.idle("fire(5, 1, 0) burns nothing", Due::busy, x -> x.fire(5, 1, 0), 0);
        Due.says(25, "BAD.");
        Due.bad("fire(_, 5, 0)", Due::busy, (x, a) -> x.fire(a, 5, 0), -1, 25);
        Due.bad("fire(5, _, 0)", Due::busy, (x, b) -> x.fire(5, b, 0), -1, 25);
        Due.bad("fire(5, 1, _)", Due::busy, (x, what) -> x.fire(5, 1, what), -1, 2);
        Due.due("BAD ahead of NONE", Due.busy().fire(8, 9, 2), BAD);
        Due.due("BAD ahead of NONE", Due.busy().fire(8, 25, 0), BAD);
    }

    // ---- promise 26

    private static long drawOf(long z, long k) {
        long x = 7919 * z + 6151 * k + 1;
        return x * x % 65521;
    }

    private static boolean burns(long z, long k) {
        return drawOf(z, k) / 16 % 3 == 0;
    }

    private static void landsOfOneYear() {
        Due.says(26, "THING DRAW modulo how many there are is BURNT, if it can be and (DRAW by 16, cut) modulo 3 is 0,");
        // z 0, k 0: x is 1, DRAW 1, cut to 0 by 16.
        OnlyWhatIsLost two = Due.laid("t0,0,99,1;t1,0,99,0;");
        Due.due("thing 1 of 2", two.land(0, 1, 1), 1);
        Due.due("thing 1 of 2, a wall", Due.laid("t0,0,99,0;t1,0,99,1;").land(0, 1, 1), 0);
        Due.due("thing 0 of 1", Due.laid("t0,0,99,0;").land(0, 1, 1), 1);
        OnlyWhatIsLost built = Due.laid("t0,0,99,1;");
        Due.due("a wall alone", built.land(0, 1, 1), 0);
        built.build(1);
        Due.due("a house is built, so there are 2", built.land(0, 1, 1), 1);
        OnlyWhatIsLost ten = Due.laid("r2,5;t0,0,99,1;t1,0,99,1;t2,0,99,1;t3,0,99,1;t4,0,99,1;"
            + "t5,0,99,1;t6,0,99,1;t7,0,99,1;t8,0,99,1;t9,0,99,0;");
        Due.says(26, "DRAW being ((x times x) modulo 65521), x 7919 z, 6151 k and 1 together;");
        for (int z : new int[] {0, 1, 2, 3, 5, 270, 271, 4999, 5000, 9990, 9995, 9996, 9997, 9998, 9999}) {
            OnlyWhatIsLost one = Due.laid("t0,0,99,0;");
            Due.due("land(" + z + ", 1, 1)", one.land(z, 1, 1), burns(z, 0) ? 1 : 0);
            Due.due("land(" + z + ", 1, 0)", one.land(z, 1, 0), burns(z, 0) ? 0 : 1);
            boolean ninth = false;
            for (int k = 0; k < 60; k++) {
                ninth |= burns(z, k) && drawOf(z, k) % 10 == 9;
            }
            Due.due("land(" + z + ", 60, 1) of ten", ten.land(z, 60, 1), ninth ? 1 : 0);
        }
        Due.says(26, "A LAND by z (0 to 9999):");
        Due.due("z 0", Due.laid("t0,0,99,0;").land(0, 1, 1), 1);
        Due.due("z 9999", Due.laid("t0,0,99,0;").land(9999, 1, 1), burns(9999, 0) ? 1 : 0);
    }

    private static void landsOfManyYears() {
        Due.says(26, "in n (1 to 60) YEARS from now on, ahead of the end of the k-th (0 first),");
        OnlyWhatIsLost late = Due.laid("t0,0,1,1;t1,0,60,1;t2,0,61,1;t3,1,99,1;t4,60,99,1;t5,61,99,1;");
        Due.due("1 year: what stands", late.land(7, 1, 0), 3);
        Due.due("1 year: what is lost", late.land(7, 1, 1), 1);
        Due.due("59 years: what stands", late.land(7, 59, 0), 3);
        Due.due("60 years: what stands", late.land(7, 60, 0), 3);
        Due.due("60 years: what is lost", late.land(7, 60, 1), 2);
        late.pass(30);
        Due.due("30 years from 30 on", late.land(7, 30, 1), 2);
        Due.due("31 years from 30 on", late.land(7, 31, 1), 3);
        Due.says(26, "then a YEAR goes by: how many STAND then; how many are LOST.");
        // z 0 burns a thing that is alone for k 0 and for k 1.
        OnlyWhatIsLost later = Due.laid("t0,1,99,0;");
        Due.due("it does not stand in year 0, so it can't be burnt", later.land(0, 1, 0), 1);
        Due.due("in year 1 it can be", later.land(0, 2, 1), 1);
        OnlyWhatIsLost first = new OnlyWhatIsLost();
        Due.due("land(5, 60, 0)", first.land(5, 60, 0), 1);
        Due.due("land(5, 60, 1)", first.land(5, 60, 1), 5);
        Due.says(26, "A LAND: STAND (what = 0), LOST (1).");
        Due.idle("land(5, 60, 0)", Due::busy, x -> x.land(5, 60, 0), 1);
        Due.idle("land(5, 60, 1)", Due::busy, x -> x.land(5, 60, 1), 6);
    }

    private static void landsPastTheLastYear() {
        Due.says(26, "99, as told, is never),");
        OnlyWhatIsLost wall = Due.laidIn(98, "t0,0,99,1;");
        Due.due("what never falls stands in 99", wall.land(0, 1, 0), 1);
        Due.due("what never falls stands in 158", wall.land(0, 60, 0), 1);
        Due.due("nor is it lost", wall.land(0, 60, 1), 0);
        // From YEAR 98 on k 1 is YEAR 99: what is burnt then has F 99, but was not told so.
        OnlyWhatIsLost x = Due.laidIn(98, "t0,0,99,0;");
        for (int z = 0; z < 100; z++) {
            int burnt = burns(z, 0) || burns(z, 1) ? 1 : 0;
            Due.due("land(" + z + ", 2, 1) from 98 on", x.land(z, 2, 1), burnt);
            Due.due("land(" + z + ", 2, 0) from 98 on", x.land(z, 2, 0), 1 - burnt);
        }
    }

    private static void burntIfItCanBe() {
        Due.says(26, "is BURNT, if it can be");
        Due.due("walls are not", Due.laid("t0,0,99,1;t1,0,99,1;").land(0, 60, 0), 2);
        Due.due("moved ones are", Due.laid("t0,0,99,2;").land(0, 1, 1), 1);
        Due.due("secret ones are", Due.laid("t0,0,99,3;").land(0, 1, 1), 1);
        Due.due("what is lost is not burnt again", Due.laidIn(5, "t0,0,5,0;").land(0, 60, 1), 1);
        OnlyWhatIsLost never = Due.laid("t0,98,99,0;");
        Due.due("what does not stand yet is not burnt", never.land(0, 60, 1), 0);
        Due.due("nor does it stand", never.land(0, 60, 0), 0);
    }

    private static void noLand() {
        Due.says(26, "BAD.");
        Due.bad("land(_, 1, 0)", Due::busy, (x, z) -> x.land(z, 1, 0), -1, 10000);
        Due.bad("land(0, _, 0)", Due::busy, (x, n) -> x.land(0, n, 0), -1, 0, 61);
        Due.bad("land(0, 1, _)", Due::busy, (x, what) -> x.land(0, 1, what), -1, 2);
    }
}
