import java.util.function.Supplier;
import java.util.function.ToIntFunction;

/** What holds for every call that is refused: which answer is the first, and that nothing changes. */
public final class RefusedTest {
    private static final int BAD = OnlyWhatIsLost.BAD;
    private static final int NO = OnlyWhatIsLost.NO;
    private static final int FULL = OnlyWhatIsLost.FULL;
    private static final int NONE = OnlyWhatIsLost.NONE;

    public static void main(String[] args) {
        badAheadOfNo();
        badAheadOfNone();
        badAheadOfFull();
        noAheadOfFull();
        nothingChanges();
        smallLandBehindGreatOne();
        Due.end();
    }

    private static void refuse(int want, String call, Supplier<OnlyWhatIsLost> made, ToIntFunction<OnlyWhatIsLost> asking) {
        Due.idle(call, made, asking, want);
    }

    private static OnlyWhatIsLost atTheEnd() {
        OnlyWhatIsLost x = Due.busy();
        Due.passTo(x, 98);
        return x;
    }

    /** Ten THINGS, twelve SEEN, two KEPT, eight to be UNDONE, 200 letters: no room for anything. */
    private static OnlyWhatIsLost crammed() {
        OnlyWhatIsLost x = Due.busy();
        x.keep();
        x.build(1);
        x.build(2);
        x.build(4);
        x.pass(1);
        x.pass(1);
        for (int cell = 2; cell < 12; cell++) {
            x.seen(cell);
        }
        Due.write(x, "y".repeat(190));
        return x;
    }

    private static void badAheadOfNo() {
        Due.says(11, "Of several the first in this order, whatever the order at a call;");
        refuse(BAD, "pass(31) in 98", RefusedTest::atTheEnd, x -> x.pass(31));
        refuse(BAD, "pass(0) in 98", RefusedTest::atTheEnd, x -> x.pass(0));
        refuse(NO, "pass(30) in 98", RefusedTest::atTheEnd, x -> x.pass(30));
    }

    private static void badAheadOfNone() {
        Due.says(18, "Of several the first in this order, whatever the order at a call;");
        refuse(BAD, "wander(2, 6, 7)", Due::busy, x -> x.wander(2, 6, 7));
        refuse(BAD, "wander(0, 6, 25)", Due::busy, x -> x.wander(0, 6, 25));
        refuse(BAD, "wander(0, 25, 6)", Due::busy, x -> x.wander(0, 25, 6));
        refuse(NONE, "wander(0, 6, 7)", Due::busy, x -> x.wander(0, 6, 7));
        Due.says(15, "Of several the first in this order, whatever the order at a call;");
        refuse(BAD, "way(6, 25)", Due::busy, x -> x.way(6, 25));
        refuse(NONE, "way(6, 24)", Due::busy, x -> x.way(6, 24));
        Due.says(16, "Of several the first in this order, whatever the order at a call;");
        refuse(BAD, "sure(0, 0, 25)", Due::busy, x -> x.sure(0, 0, 25));
        refuse(BAD, "sure(2, 0, 24)", Due::busy, x -> x.sure(2, 0, 24));
        refuse(NONE, "sure(0, 0, 24)", Due::busy, x -> x.sure(0, 0, 24));
        Due.says(17, "Of several the first in this order, whatever the order at a call;");
        refuse(BAD, "pull(0, 25, true)", Due::busy, x -> x.pull(0, 25, true));
        refuse(NONE, "pull(0, 24, true)", Due::busy, x -> x.pull(0, 24, true));
        Due.says(19, "Of several the first in this order, whatever the order at a call;");
        refuse(BAD, "wrong(0, 2)", () -> Due.laid("t0,0,1,0;m0,2,2;"), x -> x.wrong(0, 2));
        refuse(NONE, "wrong(0, 1)", () -> Due.laid("t0,0,1,0;m0,2,2;"), x -> x.wrong(0, 1));
        Due.says(23, "Of several the first in this order, whatever the order at a call;");
        refuse(BAD, "found(2)", Due::busy, x -> x.found(2));
        refuse(NONE, "found(1)", Due::busy, x -> x.found(1));
        Due.says(24, "Of several the first in this order, whatever the order at a call;");
        refuse(BAD, "round(25)", OnlyWhatIsLost::new, x -> x.round(25));
        refuse(NONE, "round(24)", OnlyWhatIsLost::new, x -> x.round(24));
        Due.says(25, "Of several the first in this order, whatever the order at a call;");
        refuse(BAD, "fire(8, 9, 2)", Due::busy, x -> x.fire(8, 9, 2));
        refuse(BAD, "fire(8, 25, 0)", Due::busy, x -> x.fire(8, 25, 0));
        refuse(NONE, "fire(8, 9, 1)", Due::busy, x -> x.fire(8, 9, 1));
    }

    private static void badAheadOfFull() {
        Due.says(2, "Of several the first in this order, whatever the order at a call;");
        refuse(BAD, "write(127)", RefusedTest::crammed, x -> x.write(127));
        refuse(FULL, "write(126)", RefusedTest::crammed, x -> x.write(126));
        Due.says(21, "Of several the first in this order, whatever the order at a call;");
        refuse(BAD, "seen(25)", RefusedTest::crammed, x -> x.seen(25));
        refuse(FULL, "seen(24)", RefusedTest::crammed, x -> x.seen(24));
        refuse(FULL, "seen(6), which is seen", RefusedTest::crammed, x -> x.seen(6));
    }

    private static void noAheadOfFull() {
        Due.says(13, "Of several the first in this order, whatever the order at a call;");
        refuse(BAD, "build(25)", RefusedTest::crammed, x -> x.build(25));
        refuse(NO, "build(6)", RefusedTest::crammed, x -> x.build(6));
        refuse(FULL, "build(24)", RefusedTest::crammed, x -> x.build(24));
    }

    private static void nothingChanges() {
        Due.says(14, "NO: not as things stand.");
        refuse(NO, "undo()", OnlyWhatIsLost::new, OnlyWhatIsLost::undo);
        Due.says(12, "NO: not as things stand.");
        refuse(NO, "burn(1)", RefusedTest::crammed, x -> x.burn(1));
        Due.says(7, "NONE: there is none.");
        refuse(NONE, "at(24)", RefusedTest::crammed, x -> x.at(24));
        Due.says(27, "FULL.");
        refuse(FULL, "keep()", RefusedTest::crammed, OnlyWhatIsLost::keep);
        Due.says(5, "nothing changes then.");
        refuse(NO, "lay()", RefusedTest::crammed, OnlyWhatIsLost::lay);
        Due.says(11, "nothing changes then.");
        refuse(BAD, "pass(-1)", RefusedTest::crammed, x -> x.pass(-1));
        refuse(NO, "pass(1)", RefusedTest::atTheEnd, x -> x.pass(1));
        Due.says(13, "nothing changes then.");
        refuse(FULL, "build(20)", RefusedTest::crammed, x -> x.build(20));
        Due.says(26, "nothing changes then.");
        refuse(BAD, "land(0, 61, 0)", RefusedTest::crammed, x -> x.land(0, 61, 0));
    }

    private static void smallLandBehindGreatOne() {
        Due.says(5, "(CELLS, THINGS, MAPS: such as there are).");
        OnlyWhatIsLost x = Due.laid("r8,8;t60,0,9,0;t61,0,9,0;t62,0,9,0;m1,2,2;m2,2,2;m3,2,2;");
        x.wipe();
        Due.write(x, "r2,2;t0,0,9,0;m1,2,2;");
        x.lay();
        Due.due("at(4)", x.at(4), BAD);
        Due.due("free(4, 0)", x.free(4, 0), BAD);
        Due.due("thing(1, 0)", x.thing(1, 0), BAD);
        Due.due("burn(1)", x.burn(1), BAD);
        Due.due("map(1, 0)", x.map(1, 0), BAD);
        Due.due("shows(1, 0)", x.shows(1, 0), BAD);
        Due.due("shows(0, 4)", x.shows(0, 4), BAD);
        Due.due("build(4)", x.build(4), BAD);
        Due.due("way(1, 4)", x.way(1, 4), BAD);
        Due.due("sure(1, 1, 1)", x.sure(1, 1, 1), BAD);
        Due.due("pull(4, 1, false)", x.pull(4, 1, false), BAD);
        Due.due("wander(1, 1, 1)", x.wander(1, 1, 1), BAD);
        Due.due("wrong(1, 0)", x.wrong(1, 0), BAD);
        Due.due("seen(4)", x.seen(4), BAD);
        Due.due("round(4)", x.round(4), BAD);
        Due.due("fire(1, 4, 0)", x.fire(1, 4, 0), BAD);
    }
}
