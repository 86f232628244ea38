/** Promises 15 to 18: way, sure, pull, wander. */
public final class WalksTest {
    private static final int BAD = OnlyWhatIsLost.BAD;
    private static final int NONE = OnlyWhatIsLost.NONE;

    public static void main(String[] args) {
        ways();
        sureWalks();
        pulls();
        friends();
        wanders();
        wandersByPrice();
        wrongNumbers();
        Due.end();
    }

    private static void ways() {
        OnlyWhatIsLost x = Due.laid("r3,3;t1,0,2,1;t4,0,4,0;t7,1,99,0;");
        Due.due("15: around", x.way(0, 2), 6);
        Due.due("15: back", x.way(2, 0), 6);
        Due.due("15: to where one is", x.way(0, 0), 0);
        Due.due("15: from what is not free", x.way(4, 3), NONE);
        Due.due("15: to what is not free", x.way(3, 4), NONE);
        Due.due("15: where one can't be", x.way(1, 1), NONE);
        x.pass(1);
        Due.due("15: shut", x.way(0, 2), NONE);
        x.pass(1);
        Due.due("15: open", x.way(0, 2), 2);
        Due.due("15: along a row and down", x.way(3, 5), 4);
        OnlyWhatIsLost y = Due.laid("r2,3;t1,0,9,1;t4,0,9,1;");
        Due.due("15: rows do not go on in the next one", y.way(2, 3), NONE);
        OnlyWhatIsLost z = Due.laid("r8,8;t1,9,10,1;");
        Due.due("15: the far corner", z.way(0, 63), 14);
    }

    private static void sureWalks() {
        OnlyWhatIsLost x = Due.laid("r3,3;t0,0,1,0;t1,0,1,0;t2,0,1,0;t5,0,1,0;t8,0,9,0;m1,2,2;m1,3,2;m9,2,2;");
        Due.due("16: along", x.sure(0, 0, 5), 3);
        Due.due("16: from a cell not shown", x.sure(0, 4, 5), NONE);
        Due.due("16: to a cell not shown", x.sure(0, 5, 8), NONE);
        Due.due("16: shown to where one is", x.sure(0, 5, 5), 0);
        Due.due("16: not shown to where one is", x.sure(0, 4, 4), NONE);
        Due.due("16: false ones, too", x.sure(1, 3, 8), 3);
        Due.due("16: what stands now, too", x.sure(2, 0, 8), 4);
    }

    private static void pulls() {
        OnlyWhatIsLost x = Due.laid("r2,5;t1,0,9,1;t6,0,9,0;t2,0,9,0;t3,0,9,3;t8,0,9,2;t4,2,9,1;");
        Due.due("17: through walls, too", x.pull(0, 4, false), 2);
        Due.due("17: from and to are counted", x.pull(1, 3, false), 3);
        Due.due("17: nothing to pull", x.pull(0, 5, false), 0);
        Due.due("17: one alone", x.pull(1, 1, false), 1);
        Due.due("17: none alone", x.pull(0, 0, false), 0);
        x.pass(2);
        Due.due("17: what stands now", x.pull(0, 4, false), 3);
        x.pass(30);
        Due.due("17: nothing stands", x.pull(0, 4, false), 0);
    }

    private static void friends() {
        OnlyWhatIsLost x = Due.laid("r2,5;t0,0,1,0;t1,0,9,0;t2,0,9,2;t4,0,9,0;t6,0,9,3;t5,0,9,1;t7,0,9,0;t8,0,9,2;");
        x.pass(1);
        Due.due("17: drawn already", x.pull(0, 0, true), 0);
        Due.due("17: one more", x.pull(0, 1, true), 1);
        Due.due("17: a moved one is drawn right of it", x.pull(3, 4, true), 2);
        Due.due("17: not where it was", x.pull(1, 2, true), NONE);
        Due.due("17: no secret one", x.pull(6, 6, true), NONE);
        Due.due("17: no wall", x.pull(5, 5, true), NONE);
        Due.due("17: on to the next row", x.pull(3, 9, true), 3);
        Due.due("17: what nobody draws", x.pull(8, 9, true), NONE);
        x.burn(1);
        Due.due("17: burnt already", x.pull(0, 1, true), 0);
        x.undo();
        x.undo();
        Due.due("17: the first thing", x.pull(0, 1, true), 2);
        OnlyWhatIsLost y = Due.laid("r2,2;t1,0,9,2;t0,0,9,2;");
        Due.due("17: at the end of a row at its own", y.pull(1, 1, true), 1);
        Due.due("17: two would be drawn at one cell", y.pull(0, 1, true), NONE);
        OnlyWhatIsLost z = Due.laid("r2,2;t0,0,1,1;t1,0,1,1;t3,1,9,0;t2,0,1,3;");
        Due.due("17: not lost yet", z.pull(0, 1, true), NONE);
        z.pass(1);
        Due.due("17: lost walls are drawn", z.pull(0, 1, true), 0);
        Due.due("17: and a house", z.pull(0, 3, true), 1);
        Due.due("17: lost secrets are not", z.pull(0, 2, true), NONE);
    }

    private static void wanders() {
        String pocket = "r3,5;t1,0,9,1;t3,0,9,1;t8,0,9,1;t13,0,9,1;";
        OnlyWhatIsLost x = Due.laid(pocket + "m0,2,2;");
        Due.due("18: to where one is", x.wander(0, 2, 2), 0);
        Due.due("18: from what is not free", x.wander(0, 1, 2), NONE);
        Due.due("18: to what is not free", x.wander(0, 2, 1), NONE);
        Due.due("18: where one can't be", x.wander(0, 1, 1), NONE);
        Due.due("18: shut off, after all is seen", x.wander(0, 2, 4), NONE);
        OnlyWhatIsLost y = Due.laid("r4,5;t3,0,9,1;t8,0,9,1;t13,0,9,1;m0,2,2;");
        Due.due("18: along the wall till its end", y.wander(0, 2, 4), 8);
        Due.due("18: into the pocket", Due.laid("r4,4;t6,0,9,1;t9,0,9,1;t2,0,9,1;m0,2,2;").wander(0, 5, 7), 10);
    }

    private static void wandersByPrice() {
        // The row below, once lost, makes the longer walk the cheaper one: 5 at 1 and 1 at 2, not 4 at 2.
        String road = "r2,5;t5,0,1,0;t6,0,1,0;t7,0,1,0;t8,0,1,0;t9,0,1,0;";
        Due.due("18: shown, but it stands", Due.laid(road + "m1,2,2;").wander(0, 0, 4), 4);
        OnlyWhatIsLost x = Due.laid(road + "m1,2,2;m0,2,2;");
        x.pass(1);
        Due.due("18: shown cells cost 1", x.wander(0, 0, 4), 6);
        Due.due("18: all cost 2", x.wander(1, 0, 4), 4);
        // Both walks round the wall cost the same: up first, and there another one shuts the row.
        OnlyWhatIsLost up = Due.laid("r3,4;t5,0,9,1;t2,0,9,1;m0,2,2;");
        Due.due("18: up ahead of down", up.wander(0, 4, 6), 8);
        OnlyWhatIsLost down = Due.laid("r3,4;t5,0,9,1;t10,0,9,1;m0,2,2;");
        Due.due("18: up again", down.wander(0, 4, 6), 4);
        Due.due("18: down ahead of right", Due.laid("r2,3;t4,0,9,1;m0,2,2;").wander(0, 0, 5), 5);
        Due.due("18: down ahead of right, shut", Due.laid("r3,3;t4,0,9,1;t7,0,9,1;m0,2,2;").wander(0, 0, 8), 8);
        Due.due("18: what is above is seen", Due.laid("r3,3;t4,0,9,1;m0,2,2;").wander(0, 7, 1), 4);
        Due.due("18: up ahead of right, shut", Due.laid("r3,3;t4,0,9,1;t1,0,9,1;m0,2,2;").wander(0, 6, 2), 8);
        Due.due("18: right ahead of left", Due.laid("r4,5;t7,0,9,1;t8,0,9,1;t6,0,9,1;t3,0,9,1;m0,2,2;").wander(0, 2, 12), 6);
    }

    private static void wrongNumbers() {
        OnlyWhatIsLost x = new OnlyWhatIsLost();
        int[][] cells = {{-1, 0}, {0, -1}, {25, 0}, {0, 25}, {Integer.MIN_VALUE, 0}, {0, Integer.MAX_VALUE}};
        for (int[] pair : cells) {
            String ab = pair[0] + ", " + pair[1];
            Due.due("15: way(" + ab + ")", x.way(pair[0], pair[1]), BAD);
            Due.due("16: sure(0, " + ab + ")", x.sure(0, pair[0], pair[1]), BAD);
            Due.due("17: pull(" + ab + ", false)", x.pull(pair[0], pair[1], false), BAD);
            Due.due("17: pull(" + ab + ", true)", x.pull(pair[0], pair[1], true), BAD);
            Due.due("18: wander(0, " + ab + ")", x.wander(0, pair[0], pair[1]), BAD);
        }
        for (int m = -1; m <= 2; m += 3) {
            Due.due("16: sure(" + m + ", 0, 0)", x.sure(m, 0, 0), BAD);
            Due.due("18: wander(" + m + ", 0, 0)", x.wander(m, 0, 0), BAD);
            Due.due("18: BAD ahead of NONE", x.wander(m, 6, 0), BAD);
        }
    }
}
