/** Promises 19 to 29: wrong, older, seen, forget, found, round, fire, land, keep, back, count. */
public final class MapsTest {
    private static final int BAD = OnlyWhatIsLost.BAD;
    private static final int NO = OnlyWhatIsLost.NO;
    private static final int FULL = OnlyWhatIsLost.FULL;
    private static final int NONE = OnlyWhatIsLost.NONE;

    public static void main(String[] args) {
        falseCells();
        orders();
        seeing();
        forgetting();
        finding();
        goingRound();
        fires();
        lands();
        landsPastTheLastYear();
        keeping();
        goingBack();
        counting();
        Due.end();
    }

    private static void falseCells() {
        OnlyWhatIsLost x = Due.laid("r3,3;t0,0,1,0;t1,0,1,3;t3,0,1,2;t4,0,5,0;t8,0,1,0;m1,2,2;m1,2,3;m5,2,2;m0,2,2;");
        Due.due("19: a moved one beside what stands", x.wrong(0, 0), 1);
        Due.due("19: the lowest", x.wrong(0, 1), 4);
        Due.due("19: a secret one is lost there", x.shows(1, 1), 1);
        Due.due("19: so it is not false", x.wrong(1, 1), 5);
        Due.due("19: but one", x.wrong(1, 0), 1);
        Due.due("19: lost by then", x.wrong(2, 0), 0);
        Due.due("19: none", x.wrong(2, 1), NONE);
        Due.due("19: nothing shown", x.wrong(3, 0), 0);
        Due.due("19: none of nothing", x.wrong(3, 1), NONE);
        Due.due("19: CELL 0, the lowest", Due.laid("t1,0,1,0;t3,0,1,0;m1,2,1;").wrong(0, 1), 0);
        Due.due("19: wrong(4, 0)", x.wrong(4, 0), BAD);
        Due.due("19: wrong(-1, 0)", x.wrong(-1, 0), BAD);
        Due.due("19: wrong(0, 2)", x.wrong(0, 2), BAD);
        Due.due("19: wrong(0, -1)", x.wrong(0, -1), BAD);
        Due.due("19: BAD ahead of NONE", x.wrong(2, 2), BAD);
    }

    private static void orders() {
        Due.due("20: no map", Due.laid("t0,0,1,0;").older(), NONE);
        Due.due("20: nothing is lost", Due.laid("t0,0,9,0;m1,2,2;").older(), 1);
        String five = "t0,0,1,0;t1,0,2,1;t2,0,3,2;t3,0,4,3;t4,0,5,0;t5,0,99,0;";
        Due.due("20: one map", Due.laid(five + "m4,2,2;").older(), 6);
        Due.due("20: but moved ones do", Due.laid("t0,0,1,2;t1,0,1,2;m1,2,2;").older(), 2);
        Due.due("20: secrets do not count", Due.laid(five + "m5,2,2;").older(), 24);
        Due.due("20: two maps", Due.laid(five + "m5,2,2;m2,0,1;").older(), 4);
        Due.due("20: two of one year", Due.laid(five + "m5,2,2;m5,0,1;").older(), 24);
        Due.due("20: each map", Due.laid(five + "m3,2,2;m1,2,2;m2,2,2;").older(), 1);
        Due.due("20: never is not lost by 99", Due.laid(five + "m99,2,2;").older(), 24);
        OnlyWhatIsLost x = Due.laid(five + "m5,2,2;m2,0,1;");
        x.burn(4);
        Due.due("20: by what is known now", x.older(), 6);
        OnlyWhatIsLost ten = Due.laid("r2,5;t0,0,1,0;t1,0,1,0;t2,0,1,0;t3,0,1,0;t4,0,1,0;"
            + "t5,0,1,0;t6,0,1,0;t7,0,1,0;t8,0,1,0;t9,0,1,0;m1,2,2;");
        Due.due("20: ten", ten.older(), 3628800);
    }

    private static void seeing() {
        OnlyWhatIsLost x = new OnlyWhatIsLost();
        Due.due("21: seen(-1)", x.seen(-1), BAD);
        Due.due("21: seen(25)", x.seen(25), BAD);
        for (int k = 1; k <= 12; k++) {
            Due.due("21: seen", x.seen(k / 2), k);
        }
        Due.due("21: a thirteenth", x.seen(0), FULL);
        Due.due("21: BAD ahead of FULL", x.seen(25), BAD);
        Due.due("21: twelve", x.count(6), 12);
    }

    private static void forgetting() {
        OnlyWhatIsLost x = new OnlyWhatIsLost();
        Due.due("22: nothing", x.forget(), 0);
        x.seen(3);
        x.seen(3);
        Due.due("22: twice", x.forget(), 2);
        Due.due("22: no more", x.forget(), 0);
        Due.due("22: nothing is seen", x.found(0), 25);
        Due.due("22: anew", x.seen(4), 1);
    }

    private static void finding() {
        OnlyWhatIsLost x = Due.laid("r3,3;t4,0,1,0;t8,0,3,0;t0,0,2,3;");
        x.pass(4);
        // Nothing in YEAR 0; 16 hands lose the middle CELL; 11 of these lose the corner, too.
        Due.due("23: nothing is seen", x.found(0), 25 + 16 + 16 + 11 + 11);
        Due.due("23: the first", x.found(1), 0);
        x.seen(4);
        x.seen(4);
        Due.due("23: one alone", x.found(0), 2);
        Due.due("23: in year 1, by a steady hand", x.found(1), 25 + 5 * 2 + 2);
        x.seen(8);
        Due.due("23: two", x.found(0), 2);
        Due.due("23: in year 3", x.found(1), 75 + 12);
        x.seen(0);
        Due.due("23: three", x.found(0), 0);
        Due.due("23: none", x.found(1), NONE);
        Due.due("23: found(2)", x.found(2), BAD);
        Due.due("23: found(-1)", x.found(-1), BAD);
        OnlyWhatIsLost y = Due.laid("t12,0,1,0;");
        y.seen(11);
        Due.due("23: not by a year to come", y.found(0), 0);
        y.pass(1);
        Due.due("23: this year, too", y.found(1), 25 + 5 * 2 + 1);
    }

    private static void goingRound() {
        OnlyWhatIsLost x = Due.laid("r8,8;t0,0,2,0;t7,0,2,1;t63,0,2,2;t56,0,2,3;t27,0,3,0;t36,0,9,0;");
        Due.due("24: nothing falls", x.round(0), NONE);
        x.pass(2);
        Due.due("24: the four corners", x.round(0), 28);
        Due.due("24: from within", x.round(27), 6 + 21 + 7);
        Due.due("24: round(64)", x.round(64), BAD);
        Due.due("24: round(-1)", x.round(-1), BAD);
        x.pass(1);
        Due.due("24: there and back", x.round(0), 12);
        Due.due("24: at the place itself", x.round(27), 0);
        x.burn(5);
        Due.due("24: burnt, too", x.round(27), 4);
        String eight = "r2,5;t0,0,1,0;t1,0,1,0;t2,0,1,0;t3,0,1,0;t4,0,1,0;t5,0,1,0;t6,0,1,0;t7,0,1,0;";
        OnlyWhatIsLost y = Due.laid(eight + "t8,0,9,0;");
        y.pass(1);
        Due.due("24: eight", y.round(9), 10);
        y.burn(8);
        Due.due("24: nine", y.round(9), NONE);
        Due.due("24: BAD ahead of NONE", y.round(10), BAD);
    }

    private static void fires() {
        OnlyWhatIsLost x = Due.laid("r3,5;t2,0,9,1;t7,0,9,0;t12,0,9,3;t1,0,9,0;");
        Due.due("25: there is none now: the shortest", x.fire(0, 4, 0), 1);
        Due.due("25: its way", x.fire(0, 4, 1), 6);
        Due.due("25: the lower of two", x.fire(6, 13, 0), 1);
        Due.due("25: to a lower row", x.fire(10, 14, 0), 2);
        Due.due("25: at its cell itself", x.fire(1, 0, 0), 3);
        Due.due("25: its way", x.fire(1, 0, 1), 1);
        Due.due("25: not for the better", x.fire(5, 6, 0), NONE);
        Due.due("25: no way is shorter", x.fire(5, 6, 1), NONE);
        Due.due("25: a wall can't be", x.fire(2, 2, 0), NONE);
        Due.due("25: the first thing", Due.laid("r2,2;t0,0,9,2;t1,0,9,1;").fire(0, 2, 0), 0);
        x.burn(1);
        Due.due("25: shorter than now", x.fire(10, 14, 0), 2);
        Due.due("25: its way", x.fire(10, 14, 1), 4);
        x.burn(3);
        Due.due("25: burnt already", x.fire(0, 4, 0), NONE);
        Due.due("25: fire(-1, 0, 0)", x.fire(-1, 0, 0), BAD);
        Due.due("25: fire(0, 15, 0)", x.fire(0, 15, 0), BAD);
        Due.due("25: fire(0, 0, 2)", x.fire(0, 0, 2), BAD);
        Due.due("25: fire(0, 0, -1)", x.fire(0, 0, -1), BAD);
        Due.due("25: nothing is burnt", x.count(7), 2);
    }

    private static void lands() {
        OnlyWhatIsLost x = new OnlyWhatIsLost();
        Due.due("26: land(5, 60, 0)", x.land(5, 60, 0), 1);
        Due.due("26: land(5, 60, 1)", x.land(5, 60, 1), 5);
        int[][] bad = {{-1, 1, 0}, {10000, 1, 0}, {0, 0, 0}, {0, 61, 0}, {0, 1, 2}, {0, 1, -1}};
        for (int[] call : bad) {
            Due.due("26: BAD", x.land(call[0], call[1], call[2]), BAD);
        }
        Due.due("26: the year stays", x.count(3), 0);
        Due.due("26: nothing to undo", x.count(7), 0);
        Due.due("26: nothing is lost", x.count(5), 0);
        // z 0, k 0: x is 1, DRAW 1, THING 1 of 2, 0 by 3: it is burnt ahead of the end of YEAR 0.
        OnlyWhatIsLost two = Due.laid("t0,0,99,0;t1,0,99,0;");
        Due.due("26: one is burnt", two.land(0, 1, 1), 1);
        Due.due("26: one stands", two.land(0, 1, 0), 1);
        OnlyWhatIsLost walls = Due.laid("t0,0,99,1;t1,0,99,1;");
        Due.due("26: walls are not", walls.land(0, 60, 0), 2);
        Due.due("26: the greatest z", two.land(9999, 1, 1), drawBurns(9999, 0) ? 1 : 0);
        OnlyWhatIsLost later = Due.laid("t0,1,99,0;t1,2,5,0;");
        Due.due("26: what is built by then", later.land(1, 1, 0) + later.land(1, 1, 1), 1);
    }

    private static boolean drawBurns(long z, long k) {
        long x = 7919 * z + 6151 * k + 1;
        return x * x % 65521 / 16 % 3 == 0;
    }

    private static void landsPastTheLastYear() {
        // From YEAR 98 on k 1 is YEAR 99: what is burnt then has F 99, but was not told so.
        for (int z = 0; z < 200; z++) {
            OnlyWhatIsLost x = Due.laid("t0,0,99,0;");
            x.pass(30);
            x.pass(30);
            x.pass(30);
            x.pass(8);
            int burnt = drawBurns(z, 0) || drawBurns(z, 1) ? 1 : 0;
            Due.due("26: land(" + z + ", 2, 1) from 98 on", x.land(z, 2, 1), burnt);
            Due.due("26: land(" + z + ", 2, 0) from 98 on", x.land(z, 2, 0), 1 - burnt);
        }
    }

    private static void keeping() {
        OnlyWhatIsLost x = new OnlyWhatIsLost();
        Due.due("27: keep()", x.keep(), 1);
        Due.due("27: keep()", x.keep(), 2);
        Due.due("27: keep()", x.keep(), FULL);
        Due.due("27: two", x.count(8), 2);
        x.back();
        Due.due("27: one came back", x.keep(), 2);
        OnlyWhatIsLost y = new OnlyWhatIsLost();
        y.pass(1);
        y.keep();
        Due.due("27: what can be undone stays", y.count(7), 1);
    }

    private static void goingBack() {
        OnlyWhatIsLost x = new OnlyWhatIsLost();
        Due.due("28: nothing kept", x.back(), NO);
        x.pass(1);
        x.keep();
        x.burn(2);
        x.build(0);
        x.keep();
        x.pass(5);
        x.seen(2);
        x.write('t');
        Due.due("28: back()", x.back(), 1);
        Due.due("28: the year as kept last", x.count(3), 1);
        Due.due("28: F as kept last", x.thing(2, 2), 1);
        Due.due("28: the house as kept last", x.at(0), 6);
        Due.due("28: nothing can be undone", x.undo(), NO);
        Due.due("28: SEEN stays", x.count(6), 1);
        Due.due("28: THE TEXT stays", x.count(9), 1);
        x.burn(6);
        Due.due("28: back()", x.back(), 0);
        Due.due("28: no house", x.at(0), NONE);
        Due.due("28: F as told", x.thing(2, 2), 5);
        Due.due("28: nothing is kept", x.back(), NO);
        x.pass(2);
        Due.due("28: NO changes nothing", x.back(), NO);
        Due.due("28: it can be undone", x.count(7), 1);
    }

    private static void counting() {
        OnlyWhatIsLost x = Due.laid("r4,6;t1,0,2,0;t2,0,5,3;t3,7,8,0;m1,2,2;");
        x.pass(2);
        x.build(0);
        x.seen(1);
        x.seen(1);
        x.seen(2);
        x.keep();
        int[] due = {24, 4, 1, 2, 2, 1, 3, 2, 1, 39};
        for (int what = 0; what < due.length; what++) {
            Due.due("29: count(" + what + ")", x.count(what), due[what]);
        }
        Due.due("29: count(-1)", x.count(-1), BAD);
        Due.due("29: count(10)", x.count(10), BAD);
    }
}
