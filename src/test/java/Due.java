/** What the tests share: counting answers that are not the ones that are due, and laying a text. */
final class Due {
    static final String FIRST_LAND =
        "t6,0,3,0;t7,1,99,1;t12,0,5,0;t17,2,4,2;t18,0,9,3;t3,0,6,1;m4,2,2;m6,2,3;";

    private static int wrong = 0;
    private static int asked = 0;

    private Due() {
    }

    static void due(String call, long got, long want) {
        asked++;
        if (got != want) {
            wrong++;
            if (wrong <= 40) {
                System.out.println(call + " answered " + got + ", due is " + want);
            }
        }
    }

    static void write(OnlyWhatIsLost x, String text) {
        for (int place = 0; place < text.length(); place++) {
            x.write(text.charAt(place));
        }
    }

    static OnlyWhatIsLost written(String text) {
        OnlyWhatIsLost x = new OnlyWhatIsLost();
        write(x, text);
        return x;
    }

    static OnlyWhatIsLost laid(String text) {
        OnlyWhatIsLost x = written(text);
        due("fault() of " + text, x.fault(), OnlyWhatIsLost.NONE);
        int cells = x.lay();
        due("lay() of " + text + " answers as many as count(0)", cells, x.count(0));
        return x;
    }

    static void faultOf(String text, int want) {
        due("fault() of " + text, written(text).fault(), want);
    }

    static void end() {
        System.out.println(wrong == 0
            ? "all " + asked + " answers are as due"
            : wrong + " of " + asked + " answers are not as due");
        if (wrong != 0) {
            System.exit(1);
        }
    }
}
