/**
 * A land of things that are built and fall by years, and maps that show only what is lost.
 * Every answer below 0 is one of BAD, NO, FULL, NONE.
 */
public final class OnlyWhatIsLost {
    public static final int BAD = -1, NO = -2, FULL = -3, NONE = -4;

    private static final String FIRST_LAND =
        "t6,0,3,0;t7,1,99,1;t12,0,5,0;t17,2,4,2;t18,0,9,3;t3,0,6,1;m4,2,2;m6,2,3;";

    private static final int MOST_LETTERS = 200;
    private static final int MOST_NUMBERS = 4;
    private static final int MOST_CELLS = 64;
    private static final int MOST_THINGS = 10;
    private static final int MOST_MAPS = 5;
    private static final int MOST_UNDONE = 8;
    private static final int MOST_KEPT = 2;
    private static final int MOST_SEEN = 12;
    private static final int MOST_STOPS = 8;
    private static final int MOST_STEPS = 200;

    private static final int LEAST_SIDE = 2;
    private static final int GREATEST_SIDE = 8;
    private static final int FIRST_SIDE = 5;

    private static final int LAST_YEAR = 98;
    private static final int LAST_YEAR_ASKED = 199;
    private static final int MOST_YEARS_AT_ONCE = 30;
    private static final int TOLD_NEVER = 99;
    // Not 99: in a LAND a THING can be BURNT in YEAR 99, and that one does fall.
    private static final int NEVER = 1000;

    private static final int HOUSE = 0;
    private static final int WALL = 1;
    private static final int MOVED = 2;
    private static final int SECRET = 3;

    private static final int STEADY = 2;
    private static final int ERRORS = 5;
    private static final int HANDS = ERRORS * ERRORS;

    private static final int MOST_DRAWN_BY = 9999;
    private static final int MOST_DRAWN_YEARS = 60;

    private static final int OUTSIDE = -1;
    // Above every sum of prices, so that a walk through a CLOSED CELL is FAR as a whole.
    private static final int FAR = 1000000;
    private static final int CLOSED = FAR;

    // Up, down, right, left: in this order a WANDERER chooses.
    private static final int DIRECTIONS = 4;
    private static final int[] DOWN_BY = {-1, 1, 0, 0};
    private static final int[] RIGHT_BY = {0, 0, 1, -1};

    private final Letters text;
    private final Reader reader;
    private final Country here;
    private final Shelf done;
    private final Shelf kept;
    private final Moment trial;
    private final Paths paths;
    private final Tour tour;
    private long seenCells;
    private int seenTimes;

    public OnlyWhatIsLost() {
        text = new Letters();
        reader = new Reader();
        here = new Country();
        done = new Shelf(MOST_UNDONE);
        kept = new Shelf(MOST_KEPT);
        trial = new Moment();
        paths = new Paths();
        tour = new Tour();
        for (int place = 0; place < FIRST_LAND.length(); place++) {
            text.append(FIRST_LAND.charAt(place));
        }
        layText();
        text.clear();
    }

    // ---- lands

    public int write(int letter) {
        if (letter < 32 || letter > 126) {
            return BAD;
        }
        return text.append((char) letter) ? text.length() : FULL;
    }

    public int wipe() {
        int was = text.length();
        text.clear();
        return was;
    }

    public int fault() {
        return reader.readAll(text);
    }

    public int lay() {
        return layText() ? here.grid.cells() : NO;
    }

    public int thing(int t, int what) {
        if (!here.now.has(t)) {
            return BAD;
        }
        switch (what) {
            case 0: return here.now.cellOf(t);
            case 1: return here.now.startOf(t);
            case 2: return here.now.toldFallOf(t);
            case 3: return here.now.kindOf(t);
            case 4: return oneIf(here.now.standsIn(t, here.now.year));
            case 5: return oneIf(here.now.isLostBy(t, here.now.year));
            default: return BAD;
        }
    }

    public int at(int x) {
        return here.grid.has(x) ? here.now.thingOf(x) : BAD;
    }

    public int free(int x, int year) {
        if (!here.grid.has(x) || year < 0 || year > LAST_YEAR_ASKED) {
            return BAD;
        }
        return oneIf(!holds(here.now.standingCells(year), x));
    }

    public int map(int m, int what) {
        if (!here.charts.has(m)) {
            return BAD;
        }
        switch (what) {
            case 0: return here.charts.yearOf(m);
            case 1: return here.charts.downOf(m);
            case 2: return here.charts.rightOf(m);
            case 3: return Long.bitCount(here.shownBy(m));
            default: return BAD;
        }
    }

    public int shows(int m, int x) {
        if (!here.charts.has(m) || !here.grid.has(x)) {
            return BAD;
        }
        return oneIf(holds(here.shownBy(m), x));
    }

    // ---- years

    public int pass(int n) {
        if (n < 1 || n > MOST_YEARS_AT_ONCE) {
            return BAD;
        }
        if (here.now.year + n > LAST_YEAR) {
            return NO;
        }
        done.putOn(here.now);
        here.now.year += n;
        return here.now.year;
    }

    public int burn(int t) {
        if (!here.now.has(t)) {
            return BAD;
        }
        if (!here.now.canBurn(t)) {
            return NO;
        }
        done.putOn(here.now);
        here.now.setFireTo(t);
        return here.now.kindOf(t);
    }

    public int build(int x) {
        if (!here.grid.has(x)) {
            return BAD;
        }
        if (here.now.thingOf(x) != NONE) {
            return NO;
        }
        if (here.now.isFull()) {
            return FULL;
        }
        done.putOn(here.now);
        return here.now.add(x, here.now.year, NEVER, HOUSE);
    }

    public int undo() {
        return done.takeOff(here.now) ? done.size() : NO;
    }

    // ---- walks

    public int way(int a, int b) {
        if (!areCells(a, b)) {
            return BAD;
        }
        return orNone(paths.stepsThrough(here.grid, freeCells(), a, b));
    }

    public int sure(int m, int a, int b) {
        if (!here.charts.has(m) || !areCells(a, b)) {
            return BAD;
        }
        return orNone(paths.stepsThrough(here.grid, here.shownBy(m), a, b));
    }

    public int pull(int a, int b, boolean friend) {
        if (!areCells(a, b)) {
            return BAD;
        }
        if (friend) {
            paths.price(here.drawnCells(here.now.year), 0, here.burnableDrawnCells(), 1);
        } else {
            paths.price(freeCells(), 0, ~freeCells(), 1);
        }
        paths.measureTo(here.grid, b);
        return orNone(paths.restFrom(a) + paths.priceOf(a));
    }

    public int wander(int m, int a, int b) {
        if (!here.charts.has(m) || !areCells(a, b)) {
            return BAD;
        }
        if (!holds(freeCells(), a) || !holds(freeCells(), b)) {
            return NONE;
        }
        return stepsOfWanderer(here.shownBy(m), ~freeCells(), a, b);
    }

    // ---- maps

    public int wrong(int m, int what) {
        if (!here.charts.has(m) || !isZeroOrOne(what)) {
            return BAD;
        }
        long falseCells = here.shownBy(m) & ~here.now.lostCells(here.charts.yearOf(m));
        return what == 0 ? Long.bitCount(falseCells) : lowestOf(falseCells);
    }

    public int older() {
        return here.charts.size() == 0 ? NONE : here.ordersOfFall();
    }

    public int seen(int x) {
        if (!here.grid.has(x)) {
            return BAD;
        }
        if (seenTimes >= MOST_SEEN) {
            return FULL;
        }
        seenCells |= bitOf(x);
        seenTimes++;
        return seenTimes;
    }

    public int forget() {
        int were = seenTimes;
        forgetAll();
        return were;
    }

    public int found(int what) {
        if (!isZeroOrOne(what)) {
            return BAD;
        }
        int hits = 0;
        int first = NONE;
        long drawn = 0L;
        int hands = handsShowing(drawn);
        for (int year = 0; year <= here.now.year; year++) {
            // In most YEARS nothing falls, and then as many hands show the same.
            if (drawn != here.drawnCells(year)) {
                drawn = here.drawnCells(year);
                hands = handsShowing(drawn);
            }
            if (hits == 0 && hands > 0) {
                first = HANDS * year + firstHandShowing(drawn);
            }
            hits += hands;
        }
        return what == 0 ? hits : first;
    }

    public int round(int x) {
        if (!here.grid.has(x)) {
            return BAD;
        }
        tour.startAt(x);
        for (int t = 0; t < here.now.size(); t++) {
            if (here.now.fallsIn(t, here.now.year) && !tour.addStop(here.now.cellOf(t))) {
                return NONE;
            }
        }
        return tour.size() == 0 ? NONE : tour.shortest(here.grid);
    }

    public int fire(int a, int b, int what) {
        if (!areCells(a, b) || !isZeroOrOne(what)) {
            return BAD;
        }
        int shortest = paths.stepsThrough(here.grid, freeCells(), a, b);
        int chosen = NONE;
        for (int t = 0; t < here.now.size(); t++) {
            if (here.now.canBurn(t)) {
                long freeThen = freeCells() | bitOf(here.now.cellOf(t));
                int steps = paths.stepsThrough(here.grid, freeThen, a, b);
                if (steps < shortest) {
                    shortest = steps;
                    chosen = t;
                }
            }
        }
        return what == 0 || chosen == NONE ? chosen : shortest;
    }

    public int land(int z, int n, int what) {
        if (z < 0 || z > MOST_DRAWN_BY || n < 1 || n > MOST_DRAWN_YEARS || !isZeroOrOne(what)) {
            return BAD;
        }
        trial.copyFrom(here.now);
        for (int k = 0; k < n; k++) {
            trial.burnBy(drawOf(z, k));
            trial.year++;
        }
        return what == 0 ? trial.countStanding() : trial.countLost();
    }

    public int keep() {
        if (kept.isFull()) {
            return FULL;
        }
        kept.putOn(here.now);
        return kept.size();
    }

    public int back() {
        if (!kept.takeOff(here.now)) {
            return NO;
        }
        done.clear();
        return kept.size();
    }

    public int count(int what) {
        switch (what) {
            case 0: return here.grid.cells();
            case 1: return here.now.size();
            case 2: return here.charts.size();
            case 3: return here.now.year;
            case 4: return here.now.countStanding();
            case 5: return here.now.countLost();
            case 6: return seenTimes;
            case 7: return done.size();
            case 8: return kept.size();
            case 9: return text.length();
            default: return BAD;
        }
    }

    // ---- helpers of the calls

    private boolean layText() {
        if (reader.readAll(text) != NONE || reader.draft.now.size() == 0) {
            return false;
        }
        here.copyFrom(reader.draft);
        forgetAll();
        done.clear();
        kept.clear();
        return true;
    }

    private void forgetAll() {
        seenCells = 0L;
        seenTimes = 0;
    }

    private boolean areCells(int a, int b) {
        return here.grid.has(a) && here.grid.has(b);
    }

    private long freeCells() {
        return ~here.now.standingCells(here.now.year);
    }

    private int stepsOfWanderer(long shown, long standing, int a, int b) {
        long remembered = 0L;
        int x = a;
        for (int steps = 0; steps <= MOST_STEPS; steps++) {
            if (x == b) {
                return steps;
            }
            long known = remembered | (standing & here.grid.cellsBeside(x));
            // What is measured stays true as long as nothing new is remembered.
            if (steps == 0 || known != remembered) {
                remembered = known;
                paths.price(shown & ~remembered, 1, ~remembered, 2);
                paths.measureTo(here.grid, b);
            }
            x = paths.nextFrom(here.grid, x);
            if (x == OUTSIDE) {
                return NONE;
            }
        }
        return NONE;
    }

    private int handsShowing(long drawn) {
        int hands = 0;
        for (int hand = 0; hand < HANDS; hand++) {
            hands += showsJustSeen(drawn, hand) ? 1 : 0;
        }
        return hands;
    }

    private int firstHandShowing(long drawn) {
        for (int hand = 0; hand < HANDS; hand++) {
            if (showsJustSeen(drawn, hand)) {
                return hand;
            }
        }
        return NONE;
    }

    private boolean showsJustSeen(long drawn, int hand) {
        int down = hand / ERRORS - STEADY;
        int right = hand % ERRORS - STEADY;
        return here.grid.shiftAll(drawn, down, right) == seenCells;
    }

    private static int drawOf(int z, int k) {
        long x = 7919L * z + 6151L * k + 1L;
        return (int) (x * x % 65521L);
    }

    private static boolean isZeroOrOne(int what) {
        return what == 0 || what == 1;
    }

    private static int oneIf(boolean so) {
        return so ? 1 : 0;
    }

    private static int orNone(int length) {
        return length < FAR ? length : NONE;
    }

    // ---- sets of CELLS: 64 at most, so a long holds one bit for each

    private static long bitOf(int x) {
        return 1L << x;
    }

    private static boolean holds(long cells, int x) {
        return (cells & bitOf(x)) != 0L;
    }

    private static int lowestOf(long cells) {
        for (int x = 0; x < MOST_CELLS; x++) {
            if (holds(cells, x)) {
                return x;
            }
        }
        return NONE;
    }

    /** THE TEXT. */
    private static final class Letters {
        private final char[] signs = new char[MOST_LETTERS];
        private int total;

        int length() {
            return total;
        }

        void clear() {
            total = 0;
        }

        boolean append(char sign) {
            if (total >= signs.length) {
                return false;
            }
            signs[total] = sign;
            total++;
            return true;
        }

        /** Behind the end there is a sign that no ITEM has. */
        char signAt(int place) {
            return place >= 0 && place < total ? signs[place] : (char) 0;
        }

        boolean isFigureAt(int place) {
            char sign = signAt(place);
            return sign >= '0' && sign <= '9';
        }
    }

    /** Reads a TEXT, ITEM by ITEM, into a draft that is whole only if there is no FAULT. */
    private static final class Reader {
        private final Country draft = new Country();
        private final int[] numbers = new int[MOST_NUMBERS];

        int readAll(Letters text) {
            draft.clear();
            int place = 0;
            for (int items = 0; items < MOST_LETTERS && place < text.length(); items++) {
                char letter = text.signAt(place);
                int end = readNumbers(text, place + 1, numbersBehind(letter));
                if (end == NONE || !isTaken(letter)) {
                    return place;
                }
                place = end;
            }
            return NONE;
        }

        private static int numbersBehind(char letter) {
            switch (letter) {
                case 'r': return 2;
                case 't': return 4;
                case 'm': return 3;
                default: return 0;
            }
        }

        /** The place behind the ITEM, or NONE. */
        private int readNumbers(Letters text, int from, int wanted) {
            int place = from;
            for (int k = 0; k < wanted && k < numbers.length; k++) {
                if (!text.isFigureAt(place)) {
                    return NONE;
                }
                numbers[k] = text.signAt(place) - '0';
                place++;
                if (text.isFigureAt(place)) {
                    numbers[k] = 10 * numbers[k] + text.signAt(place) - '0';
                    place++;
                }
                if (text.signAt(place) != (k + 1 < wanted ? ',' : ';')) {
                    return NONE;
                }
                place++;
            }
            return wanted == 0 ? NONE : place;
        }

        private boolean isTaken(char letter) {
            switch (letter) {
                case 'r': return takeRows(numbers[0], numbers[1]);
                case 't': return takeThing(numbers[0], numbers[1], numbers[2], numbers[3]);
                case 'm': return takeMap(numbers[0], numbers[1], numbers[2]);
                default: return false;
            }
        }

        private boolean takeRows(int rows, int columns) {
            if (draft.now.size() > 0 || draft.charts.size() > 0) {
                return false;
            }
            return draft.grid.resize(rows, columns);
        }

        private boolean takeThing(int x, int start, int fall, int kind) {
            if (!draft.grid.has(x) || start >= fall || kind > SECRET) {
                return false;
            }
            if (draft.now.isFull() || draft.now.thingOf(x) != NONE) {
                return false;
            }
            draft.now.add(x, start, fall == TOLD_NEVER ? NEVER : fall, kind);
            return true;
        }

        private boolean takeMap(int year, int down, int right) {
            return down < ERRORS && right < ERRORS && draft.charts.add(year, down, right);
        }
    }

    /** All that a TEXT tells: the CELLS, the YEAR with its THINGS, the MAPS. */
    private static final class Country {
        private final Grid grid = new Grid();
        private final Moment now = new Moment();
        private final Charts charts = new Charts();

        void clear() {
            grid.resize(FIRST_SIDE, FIRST_SIDE);
            now.clear();
            charts.clear();
        }

        void copyFrom(Country other) {
            grid.resize(other.grid.rows, other.grid.columns);
            now.copyFrom(other.now);
            charts.copyFrom(other.charts);
        }

        /** What is TRUE to a YEAR. */
        long drawnCells(int year) {
            long cells = 0L;
            for (int t = 0; t < now.size(); t++) {
                if (now.isLostBy(t, year) && now.kindOf(t) != SECRET) {
                    cells |= bitOf(placeDrawn(t));
                }
            }
            return cells;
        }

        /** What would be drawn, TRUE to this YEAR, if all that can be BURNT were, beside what is. */
        long burnableDrawnCells() {
            long cells = 0L;
            for (int t = 0; t < now.size(); t++) {
                if (now.canBurn(t) && now.kindOf(t) != SECRET) {
                    cells |= bitOf(placeDrawn(t));
                }
            }
            return cells;
        }

        long shownBy(int m) {
            int down = charts.downOf(m) - STEADY;
            int right = charts.rightOf(m) - STEADY;
            return grid.shiftAll(drawnCells(charts.yearOf(m)), down, right);
        }

        private int placeDrawn(int t) {
            int own = now.cellOf(t);
            int right = grid.shift(own, 0, 1);
            return now.kindOf(t) == MOVED && right != OUTSIDE ? right : own;
        }

        /** THINGS that fell between the same two MAPS can have fallen in any order. */
        int ordersOfFall() {
            int orders = 1;
            for (int t = 0; t < now.size(); t++) {
                int mapped = yearMapped(t);
                if (mapped != NEVER) {
                    int together = 1;
                    for (int u = 0; u < t; u++) {
                        together += yearMapped(u) == mapped ? 1 : 0;
                    }
                    orders *= together;
                }
            }
            return orders;
        }

        /** The first YEAR of a MAP by which a THING is LOST; NEVER for a SECRET one. */
        private int yearMapped(int t) {
            int first = NEVER;
            for (int m = 0; m < charts.size(); m++) {
                if (now.kindOf(t) != SECRET && now.isLostBy(t, charts.yearOf(m))) {
                    first = Math.min(first, charts.yearOf(m));
                }
            }
            return first;
        }
    }

    /** The CELLS and what is beside what. */
    private static final class Grid {
        private int rows = FIRST_SIDE;
        private int columns = FIRST_SIDE;

        boolean resize(int newRows, int newColumns) {
            if (!isSide(newRows) || !isSide(newColumns)) {
                return false;
            }
            rows = newRows;
            columns = newColumns;
            return true;
        }

        private static boolean isSide(int length) {
            return length >= LEAST_SIDE && length <= GREATEST_SIDE;
        }

        int cells() {
            return rows * columns;
        }

        boolean has(int x) {
            return x >= 0 && x < cells();
        }

        private int rowOf(int x) {
            return columns > 0 ? x / columns : 0;
        }

        private int columnOf(int x) {
            return x - rowOf(x) * columns;
        }

        /** The CELL so far down and right of one, or OUTSIDE. */
        int shift(int x, int down, int right) {
            int row = rowOf(x) + down;
            int column = columnOf(x) + right;
            boolean inside = row >= 0 && row < rows && column >= 0 && column < columns;
            return inside ? row * columns + column : OUTSIDE;
        }

        long shiftAll(long from, int down, int right) {
            long to = 0L;
            for (int x = 0; x < cells(); x++) {
                if (holds(from, x)) {
                    int moved = shift(x, down, right);
                    to |= moved == OUTSIDE ? 0L : bitOf(moved);
                }
            }
            return to;
        }

        int beside(int x, int direction) {
            if (direction < 0 || direction >= DIRECTIONS) {
                return OUTSIDE;
            }
            return shift(x, DOWN_BY[direction], RIGHT_BY[direction]);
        }

        long cellsBeside(int x) {
            long cells = 0L;
            for (int direction = 0; direction < DIRECTIONS; direction++) {
                int y = beside(x, direction);
                cells |= y == OUTSIDE ? 0L : bitOf(y);
            }
            return cells;
        }

        int apart(int x, int y) {
            return Math.abs(rowOf(x) - rowOf(y)) + Math.abs(columnOf(x) - columnOf(y));
        }
    }

    /** The MAPS. */
    private static final class Charts {
        private final int[] years = new int[MOST_MAPS];
        private final int[] downs = new int[MOST_MAPS];
        private final int[] rights = new int[MOST_MAPS];
        private int total;

        int size() {
            return total;
        }

        boolean has(int m) {
            return m >= 0 && m < total;
        }

        void clear() {
            total = 0;
        }

        boolean add(int year, int down, int right) {
            if (total >= MOST_MAPS) {
                return false;
            }
            years[total] = year;
            downs[total] = down;
            rights[total] = right;
            total++;
            return true;
        }

        void copyFrom(Charts other) {
            System.arraycopy(other.years, 0, years, 0, MOST_MAPS);
            System.arraycopy(other.downs, 0, downs, 0, MOST_MAPS);
            System.arraycopy(other.rights, 0, rights, 0, MOST_MAPS);
            total = other.total;
        }

        int yearOf(int m) {
            return has(m) ? years[m] : BAD;
        }

        int downOf(int m) {
            return has(m) ? downs[m] : BAD;
        }

        int rightOf(int m) {
            return has(m) ? rights[m] : BAD;
        }
    }

    /** The YEAR and the THINGS: what is UNDONE and KEPT. */
    private static final class Moment {
        private final int[] cells = new int[MOST_THINGS];
        private final int[] starts = new int[MOST_THINGS];
        private final int[] falls = new int[MOST_THINGS];
        private final int[] kinds = new int[MOST_THINGS];
        private int total;
        private int year;

        int size() {
            return total;
        }

        boolean has(int t) {
            return t >= 0 && t < total;
        }

        boolean isFull() {
            return total >= MOST_THINGS;
        }

        void clear() {
            total = 0;
            year = 0;
        }

        /** The new THING's number. */
        int add(int x, int start, int fall, int kind) {
            if (isFull()) {
                return FULL;
            }
            cells[total] = x;
            starts[total] = start;
            falls[total] = fall;
            kinds[total] = kind;
            total++;
            return total - 1;
        }

        void copyFrom(Moment other) {
            System.arraycopy(other.cells, 0, cells, 0, MOST_THINGS);
            System.arraycopy(other.starts, 0, starts, 0, MOST_THINGS);
            System.arraycopy(other.falls, 0, falls, 0, MOST_THINGS);
            System.arraycopy(other.kinds, 0, kinds, 0, MOST_THINGS);
            total = other.total;
            year = other.year;
        }

        int cellOf(int t) {
            return has(t) ? cells[t] : BAD;
        }

        int startOf(int t) {
            return has(t) ? starts[t] : BAD;
        }

        int toldFallOf(int t) {
            return has(t) ? Math.min(falls[t], TOLD_NEVER) : BAD;
        }

        int kindOf(int t) {
            return has(t) ? kinds[t] : BAD;
        }

        boolean standsIn(int t, int when) {
            return has(t) && starts[t] <= when && when < falls[t];
        }

        boolean isLostBy(int t, int when) {
            return has(t) && falls[t] <= when;
        }

        boolean fallsIn(int t, int when) {
            return has(t) && falls[t] == when;
        }

        boolean canBurn(int t) {
            return standsIn(t, year) && kindOf(t) != WALL;
        }

        void setFireTo(int t) {
            if (has(t)) {
                falls[t] = year;
            }
        }

        /** What a LAND's DRAW does to one YEAR. */
        void burnBy(int draw) {
            if (total <= 0 || draw / 16 % 3 != 0) {
                return;
            }
            int t = draw % total;
            if (canBurn(t)) {
                setFireTo(t);
            }
        }

        int thingOf(int x) {
            for (int t = 0; t < total; t++) {
                if (cells[t] == x) {
                    return t;
                }
            }
            return NONE;
        }

        long standingCells(int when) {
            long standing = 0L;
            for (int t = 0; t < total; t++) {
                standing |= standsIn(t, when) ? bitOf(cellOf(t)) : 0L;
            }
            return standing;
        }

        long lostCells(int when) {
            long lost = 0L;
            for (int t = 0; t < total; t++) {
                lost |= isLostBy(t, when) ? bitOf(cellOf(t)) : 0L;
            }
            return lost;
        }

        // One THING at a CELL: as many CELLS as THINGS.
        int countStanding() {
            return Long.bitCount(standingCells(year));
        }

        int countLost() {
            return Long.bitCount(lostCells(year));
        }
    }

    /** Moments one on the other; a full shelf loses its lowest one for a new one. */
    private static final class Shelf {
        private final Moment[] moments;
        private int total;

        Shelf(int most) {
            moments = new Moment[Math.max(most, 1)];
            for (int k = 0; k < moments.length; k++) {
                moments[k] = new Moment();
            }
        }

        int size() {
            return total;
        }

        boolean isFull() {
            return total >= moments.length;
        }

        void clear() {
            total = 0;
        }

        void putOn(Moment moment) {
            if (isFull()) {
                dropLowest();
            }
            moments[total].copyFrom(moment);
            total++;
        }

        private void dropLowest() {
            Moment lowest = moments[0];
            for (int k = 1; k < moments.length; k++) {
                moments[k - 1] = moments[k];
            }
            moments[moments.length - 1] = lowest;
            total--;
        }

        boolean takeOff(Moment into) {
            if (total <= 0) {
                return false;
            }
            total--;
            into.copyFrom(moments[total]);
            return true;
        }
    }

    /** Cheapest walks to one CELL, each CELL that is come to having its price. */
    private static final class Paths {
        private final int[] prices = new int[MOST_CELLS];
        private final int[] rests = new int[MOST_CELLS];
        private final int[] queue = new int[MOST_CELLS];
        private long queued;
        private int head;
        private int waiting;

        /** The fewest steps from a to b through open CELLS alone, or FAR. */
        int stepsThrough(Grid grid, long open, int a, int b) {
            price(open, 1, 0L, 0);
            measureTo(grid, b);
            return restFrom(a);
        }

        /** CELLS in neither set are CLOSED; the first set counts where both hold one. */
        void price(long first, int firstPrice, long second, int secondPrice) {
            for (int x = 0; x < MOST_CELLS; x++) {
                int otherwise = holds(second, x) ? secondPrice : CLOSED;
                prices[x] = holds(first, x) ? firstPrice : otherwise;
            }
        }

        int priceOf(int x) {
            return x >= 0 && x < MOST_CELLS ? prices[x] : CLOSED;
        }

        /** What the walk from a CELL on to the goal costs, or FAR. */
        int restFrom(int x) {
            return x >= 0 && x < MOST_CELLS ? rests[x] : FAR;
        }

        void measureTo(Grid grid, int goal) {
            for (int x = 0; x < MOST_CELLS; x++) {
                rests[x] = FAR;
            }
            queued = 0L;
            head = 0;
            waiting = 0;
            reach(goal, 0);
            // First in, first out: each CELL comes at most once for each length of a walk.
            for (int turn = 0; turn < MOST_CELLS * MOST_CELLS && waiting > 0; turn++) {
                int x = takeFromQueue();
                for (int direction = 0; direction < DIRECTIONS; direction++) {
                    reach(grid.beside(x, direction), restFrom(x) + priceOf(x));
                }
            }
        }

        private void reach(int x, int rest) {
            if (priceOf(x) == CLOSED || rest >= restFrom(x)) {
                return;
            }
            rests[x] = rest;
            if (!holds(queued, x) && waiting < MOST_CELLS) {
                queue[(head + waiting) % MOST_CELLS] = x;
                queued |= bitOf(x);
                waiting++;
            }
        }

        private int takeFromQueue() {
            int x = queue[head];
            head = (head + 1) % MOST_CELLS;
            waiting--;
            queued &= ~bitOf(x);
            return x;
        }

        /** The first step of the cheapest walk; of several the first direction's; or OUTSIDE. */
        int nextFrom(Grid grid, int x) {
            int best = OUTSIDE;
            int least = FAR;
            for (int direction = 0; direction < DIRECTIONS; direction++) {
                int y = grid.beside(x, direction);
                int whole = priceOf(y) + restFrom(y);
                if (whole < least) {
                    least = whole;
                    best = y;
                }
            }
            return best;
        }
    }

    /** The shortest way round some stops and back to the start. */
    private static final class Tour {
        private final int[] stops = new int[MOST_STOPS];
        private final int[] best = new int[(1 << MOST_STOPS) * MOST_STOPS];
        private int start;
        private int total;

        int size() {
            return total;
        }

        void startAt(int x) {
            start = x;
            total = 0;
        }

        boolean addStop(int x) {
            if (total >= MOST_STOPS) {
                return false;
            }
            stops[total] = x;
            total++;
            return true;
        }

        int shortest(Grid grid) {
            int all = (1 << total) - 1;
            for (int group = 1; group <= all; group++) {
                for (int last = 0; last < total; last++) {
                    if ((group >> last & 1) == 1) {
                        best[group * MOST_STOPS + last] = shortestThrough(grid, group, last);
                    }
                }
            }
            return shortestOn(grid, all, start);
        }

        /** From the start through a group of stops, of which the last one comes last. */
        private int shortestThrough(Grid grid, int group, int last) {
            int others = group & ~(1 << last);
            return others == 0
                ? grid.apart(start, stops[last])
                : shortestOn(grid, others, stops[last]);
        }

        /** From the start through a group of stops on to a CELL. */
        private int shortestOn(Grid grid, int group, int x) {
            int least = FAR;
            for (int last = 0; last < total; last++) {
                if ((group >> last & 1) == 1) {
                    int whole = best[group * MOST_STOPS + last] + grid.apart(stops[last], x);
                    least = Math.min(least, whole);
                }
            }
            return least;
        }
    }
}
