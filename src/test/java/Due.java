import java.util.function.Supplier;
import java.util.function.ToIntFunction;

/**
 * What the tests share: the sentence that is held, answers that are not the ones that are due, lands to ask.
 * DocTest looks for the sentences in the document, so each is told as it stands there.
 */
final class Due {
    static final String FIRST_LAND =
        "t6,0,3,0;t7,1,99,1;t12,0,5,0;t17,2,4,2;t18,0,9,3;t3,0,6,1;m4,2,2;m6,2,3;";

    private static final int MOST_TOLD = 40;
    private static final int[] FAR_OFF = {Integer.MIN_VALUE, Integer.MAX_VALUE};

    private static int wrong = 0;
    private static int asked = 0;
    private static int askedAhead = -1;
    private static String held = "";

    interface Numbered {
        int ask(OnlyWhatIsLost x, int number);
    }

    private Due() {
    }

    /** What is asked from here on, up to the next sentence, holds this one. */
    static void says(int promise, String sentence) {
        endSentence();
        held = "promise " + promise + ", \"" + sentence + "\": ";
        askedAhead = asked;
    }

    private static void endSentence() {
        if (asked == askedAhead) {
            due("nothing is asked here", 0, 1);
        }
    }

    static void due(String call, long got, long want) {
        same(call, String.valueOf(got), String.valueOf(want));
    }

    static void same(String call, String got, String want) {
        asked++;
        if (!got.equals(want)) {
            wrong++;
            if (wrong <= MOST_TOLD) {
                System.out.println(held + call + " answered " + got + ", due is " + want);
            }
        }
    }

    /** The call answers so, and all that can be asked then is as it is without the call. */
    static void idle(String call, Supplier<OnlyWhatIsLost> made, ToIntFunction<OnlyWhatIsLost> asking, int want) {
        OnlyWhatIsLost x = made.get();
        due(call, asking.applyAsInt(x), want);
        same("what is there behind " + call, Everything.of(x), Everything.of(made.get()));
    }

    /** BAD for each number, told as _ in the call, and for the least and the greatest int; nothing changes. */
    static void bad(String call, Supplier<OnlyWhatIsLost> made, Numbered asking, int... numbers) {
        for (int number : numbers) {
            idle(call.replace("_", "" + number), made, x -> asking.ask(x, number), OnlyWhatIsLost.BAD);
        }
        for (int number : FAR_OFF) {
            idle(call.replace("_", "" + number), made, x -> asking.ask(x, number), OnlyWhatIsLost.BAD);
        }
    }

    static void write(OnlyWhatIsLost x, String text) {
        for (int place = 0; place < text.length(); place++) {
            x.write(text.charAt(place));
        }
    }

    static OnlyWhatIsLost written(String text) {
        OnlyWhatIsLost x = new OnlyWhatIsLost();
        write(x, text);
        return x;
    }

    static OnlyWhatIsLost laid(String text) {
        OnlyWhatIsLost x = written(text);
        due("fault() of " + text, x.fault(), OnlyWhatIsLost.NONE);
        int cells = x.lay();
        due("lay() of " + text + " answers as many as count(0)", cells, x.count(0));
        return x;
    }

    static OnlyWhatIsLost laidIn(int year, String text) {
        OnlyWhatIsLost x = laid(text);
        passTo(x, year);
        return x;
    }

    static void passTo(OnlyWhatIsLost x, int year) {
        for (int turn = 0; turn < 4 && x.count(3) < year; turn++) {
            x.pass(Math.min(30, year - x.count(3)));
        }
    }

    /** The first land in YEAR 1, 7 THINGS, with letters, something SEEN, UNDONE and KEPT: nothing is as at first. */
    static OnlyWhatIsLost busy() {
        OnlyWhatIsLost x = written("t0,0,1,0;x");
        x.pass(1);
        x.burn(2);
        x.keep();
        x.build(0);
        x.seen(6);
        x.seen(7);
        return x;
    }

    static void faultOf(String text, int want) {
        due("fault() of " + text, written(text).fault(), want);
    }

    static void end() {
        endSentence();
        System.out.println(wrong == 0
            ? "all " + asked + " answers are as due"
            : wrong + " of " + asked + " answers are not as due");
        if (wrong != 0) {
            System.exit(1);
        }
    }
}
