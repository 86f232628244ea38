import java.util.Random;

/** Runs of drawn calls (always the same ones), each answer held against PlainLand's. */
public final class ModelTest {
    private static final int RUNS = 400;
    private static final int CALLS = 512;

    private final Random random;
    private final OnlyWhatIsLost program = new OnlyWhatIsLost();
    private final PlainLand plain = new PlainLand();
    private int calls;

    private ModelTest(long seed) {
        random = new Random(seed);
    }

    public static void main(String[] args) {
        int runs = args.length > 0 ? Integer.parseInt(args[0]) : RUNS;
        for (int run = 0; run < runs; run++) {
            new ModelTest(run).run(run);
        }
        Due.end();
    }

    private void run(int run) {
        if (run % 5 != 0) {
            writeAndLay();
        }
        while (calls < CALLS) {
            if (random.nextInt(150) == 0 && calls < 300) {
                writeAndLay();
            } else {
                ask(run);
            }
        }
    }

    private void writeAndLay() {
        same("wipe()", program.wipe(), plain.wipe());
        String text = drawText();
        for (int place = 0; place < text.length(); place++) {
            int letter = text.charAt(place);
            same("write(" + letter + ")", program.write(letter), plain.write(letter));
        }
        same("fault() of " + text, program.fault(), plain.fault());
        same("lay() of " + text, program.lay(), plain.lay());
    }

    private String drawText() {
        int rows = 2 + random.nextInt(7);
        int columns = 2 + random.nextInt(7);
        boolean told = random.nextInt(6) != 0;
        StringBuilder text = new StringBuilder();
        if (told) {
            text.append("r").append(rows).append(",").append(columns).append(";");
        } else {
            rows = 5;
            columns = 5;
        }
        int things = 1 + random.nextInt(10);
        boolean[] taken = new boolean[rows * columns];
        int lastYear = random.nextBoolean() ? 6 : 98;
        for (int t = 0; t < things; t++) {
            int x = random.nextInt(rows * columns);
            if (!taken[x] || random.nextInt(60) == 0) {
                taken[x] = true;
                int start = random.nextInt(2) * random.nextInt(lastYear);
                int fall = random.nextInt(4) == 0 ? 99 : start + 1 + random.nextInt(lastYear - start);
                text.append("t" + x + "," + start + "," + fall + "," + random.nextInt(4) + ";");
            }
        }
        int maps = random.nextInt(6);
        for (int m = 0; m < maps; m++) {
            int down = random.nextBoolean() ? 2 : random.nextInt(5);
            int right = random.nextBoolean() ? 2 : random.nextInt(5);
            text.append("m" + random.nextInt(random.nextBoolean() ? 100 : 8) + "," + down + "," + right + ";");
        }
        if (random.nextInt(6) == 0) {
            spoil(text);
        }
        return text.toString();
    }

    private void spoil(StringBuilder text) {
        String signs = "0123456789,;rtm x";
        int place = random.nextInt(text.length());
        char sign = signs.charAt(random.nextInt(signs.length()));
        switch (random.nextInt(4)) {
            case 0: text.setCharAt(place, sign); break;
            case 1: text.deleteCharAt(place); break;
            case 2: text.insert(place, sign); break;
            default: text.insert(place, text.substring(0, Math.min(text.length(), 10))); break;
        }
    }

    private int cell() {
        int cells = program.count(0);
        return random.nextInt(40) == 0 ? random.nextInt(3) - 1 + cells * random.nextInt(2) : random.nextInt(cells);
    }

    private int thing() {
        return random.nextInt(program.count(1) + 1) - (random.nextInt(20) == 0 ? 1 : 0);
    }

    private int map() {
        int maps = program.count(2);
        return maps == 0 || random.nextInt(20) == 0 ? random.nextInt(7) - 1 : random.nextInt(maps);
    }

    private int what(int most) {
        return random.nextInt(30) == 0 ? random.nextInt(3) - 1 + (most + 1) * random.nextInt(2) : random.nextInt(most + 1);
    }

    private void ask(int run) {
        int a = cell();
        int b = cell();
        int t = thing();
        int m = map();
        switch (random.nextInt(28)) {
            case 0: askText(); break;
            case 1: askThing(t, what(5)); break;
            case 2: same("at(" + a + ")", program.at(a), plain.at(a)); break;
            case 3: askFree(a, random.nextInt(202) - 1); break;
            case 4: askMap(m, what(3)); break;
            case 5: same("shows(" + m + ", " + a + ")", program.shows(m, a), plain.shows(m, a)); break;
            case 6: askPass(run); break;
            case 7: same("burn(" + t + ")", program.burn(t), plain.burn(t)); break;
            case 8: same("build(" + a + ")", program.build(a), plain.build(a)); break;
            case 9: same("undo()", program.undo(), plain.undo()); break;
            case 10: case 11: same("way(" + a + ", " + b + ")", program.way(a, b), plain.way(a, b)); break;
            case 12: askSure(m, a, b); break;
            case 13: askPull(a, b, false); break;
            case 14: askPull(a, b, true); break;
            case 15: case 16: askWander(m, a, b); break;
            case 17: askWrong(m, what(1)); break;
            case 18: same("older()", program.older(), plain.older()); break;
            case 19: askSeen(a, m); break;
            case 20: same("forget()", program.forget(), plain.forget()); break;
            case 21: askFound(what(1)); break;
            case 22: same("round(" + a + ")", program.round(a), plain.round(a)); break;
            case 23: case 24: askFire(a, b, what(1)); break;
            case 25: askLand(random.nextInt(10004) - 2, random.nextInt(63), what(1)); break;
            case 26: askKept(); break;
            default: askCount(what(9)); break;
        }
    }

    private void askText() {
        int letter = random.nextInt(130);
        same("write(" + letter + ")", program.write(letter), plain.write(letter));
        same("fault()", program.fault(), plain.fault());
    }

    private void askThing(int t, int what) {
        same("thing(" + t + ", " + what + ")", program.thing(t, what), plain.thing(t, what));
    }

    private void askFree(int x, int year) {
        same("free(" + x + ", " + year + ")", program.free(x, year), plain.free(x, year));
    }

    private void askMap(int m, int what) {
        same("map(" + m + ", " + what + ")", program.map(m, what), plain.map(m, what));
    }

    private void askPass(int run) {
        int n = run % 2 == 0 ? random.nextInt(3) : random.nextInt(33) - 1;
        same("pass(" + n + ")", program.pass(n), plain.pass(n));
    }

    private void askSure(int m, int a, int b) {
        same("sure(" + m + ", " + a + ", " + b + ")", program.sure(m, a, b), plain.sure(m, a, b));
    }

    private void askPull(int a, int b, boolean friend) {
        int near = random.nextBoolean() ? a + random.nextInt(2) : b;
        same("pull(" + a + ", " + near + ", " + friend + ")", program.pull(a, near, friend), plain.pull(a, near, friend));
    }

    private void askWander(int m, int a, int b) {
        same("wander(" + m + ", " + a + ", " + b + ")", program.wander(m, a, b), plain.wander(m, a, b));
    }

    private void askWrong(int m, int what) {
        same("wrong(" + m + ", " + what + ")", program.wrong(m, what), plain.wrong(m, what));
    }

    /** Half of the time what a map shows, so that there is something to be found. */
    private void askSeen(int x, int m) {
        if (random.nextBoolean()) {
            same("seen(" + x + ")", program.seen(x), plain.seen(x));
            return;
        }
        same("forget()", program.forget(), plain.forget());
        for (int y = 0; y < program.count(0); y++) {
            if (plain.shows(m, y) == 1) {
                same("seen(" + y + ")", program.seen(y), plain.seen(y));
            }
        }
        askFound(0);
        askFound(1);
    }

    private void askFound(int what) {
        same("found(" + what + ")", program.found(what), plain.found(what));
    }

    private void askFire(int a, int b, int what) {
        same("fire(" + a + ", " + b + ", " + what + ")", program.fire(a, b, what), plain.fire(a, b, what));
    }

    private void askLand(int z, int n, int what) {
        same("land(" + z + ", " + n + ", " + what + ")", program.land(z, n, what), plain.land(z, n, what));
    }

    private void askKept() {
        if (random.nextBoolean()) {
            same("keep()", program.keep(), plain.keep());
        } else {
            same("back()", program.back(), plain.back());
        }
    }

    private void askCount(int what) {
        same("count(" + what + ")", program.count(what), plain.count(what));
    }

    private void same(String call, int got, int want) {
        calls++;
        Due.due(call, got, want);
    }
}
