import java.util.ArrayList;
import java.util.Arrays;
import java.util.HashSet;
import java.util.List;
import java.util.Set;
import java.util.TreeSet;
import java.util.regex.Matcher;
import java.util.regex.Pattern;

/**
 * The document told a second time, by trying everything out: all sets of things to pull down, all orders,
 * all rounds. Nothing of it is taken from the program, so that the two can be held against each other.
 */
final class PlainLand {
    static final int BAD = -1, NO = -2, FULL = -3, NONE = -4;
    private static final Pattern ITEM =
        Pattern.compile("([rtm])(\\d{1,2}(?:,\\d{1,2})*);");

    static final class Thing {
        int cell, from, to, kind;
        boolean never;

        Thing(int cell, int from, int to, int kind, boolean never) {
            this.cell = cell;
            this.from = from;
            this.to = to;
            this.kind = kind;
            this.never = never;
        }

        Thing copy() {
            return new Thing(cell, from, to, kind, never);
        }

        boolean lost(int year) {
            return !never && year >= to;
        }

        boolean stands(int year) {
            return year >= from && !lost(year);
        }
    }

    static final class State {
        int year;
        List<Thing> things = new ArrayList<>();

        State copy() {
            State s = new State();
            s.year = year;
            for (Thing t : things) {
                s.things.add(t.copy());
            }
            return s;
        }
    }

    private final StringBuilder text = new StringBuilder();
    private int rows, columns;
    private State state = new State();
    private List<int[]> maps = new ArrayList<>();
    private final List<Integer> seen = new ArrayList<>();
    private final List<State> undone = new ArrayList<>();
    private final List<State> kept = new ArrayList<>();

    private int readRows, readColumns;
    private State readState;
    private List<int[]> readMaps;

    PlainLand() {
        text.append("t6,0,3,0;t7,1,99,1;t12,0,5,0;t17,2,4,2;t18,0,9,3;t3,0,6,1;m4,2,2;m6,2,3;");
        lay();
        text.setLength(0);
    }

    // ---- text

    int write(int letter) {
        if (letter < 32 || letter > 126) return BAD;
        if (text.length() == 200) return FULL;
        text.append((char) letter);
        return text.length();
    }

    int wipe() {
        int n = text.length();
        text.setLength(0);
        return n;
    }

    int fault() {
        readRows = 5;
        readColumns = 5;
        readState = new State();
        readMaps = new ArrayList<>();
        Matcher matcher = ITEM.matcher(text);
        int place = 0;
        while (place < text.length()) {
            matcher.region(place, text.length());
            if (!matcher.lookingAt()) return place;
            String[] parts = matcher.group(2).split(",");
            int[] n = new int[parts.length];
            for (int i = 0; i < n.length; i++) n[i] = Integer.parseInt(parts[i]);
            if (!takes(matcher.group(1), n)) return place;
            place = matcher.end();
        }
        return NONE;
    }

    private boolean takes(String letter, int[] n) {
        if (letter.equals("r")) {
            if (n.length != 2 || !readState.things.isEmpty() || !readMaps.isEmpty()) return false;
            if (n[0] < 2 || n[0] > 8 || n[1] < 2 || n[1] > 8) return false;
            readRows = n[0];
            readColumns = n[1];
            return true;
        }
        if (letter.equals("t")) {
            if (n.length != 4 || n[0] >= readRows * readColumns || n[1] >= n[2] || n[3] > 3) return false;
            if (readState.things.size() == 10) return false;
            for (Thing t : readState.things) if (t.cell == n[0]) return false;
            readState.things.add(new Thing(n[0], n[1], n[2], n[3], n[2] == 99));
            return true;
        }
        if (n.length != 3 || n[1] > 4 || n[2] > 4 || readMaps.size() == 5) return false;
        readMaps.add(n);
        return true;
    }

    int lay() {
        if (fault() != NONE || readState.things.isEmpty()) return NO;
        rows = readRows;
        columns = readColumns;
        state = readState;
        maps = readMaps;
        seen.clear();
        undone.clear();
        kept.clear();
        return rows * columns;
    }

    // ---- what there is

    private boolean cell(int x) {
        return x >= 0 && x < rows * columns;
    }

    private boolean isThing(int t) {
        return t >= 0 && t < state.things.size();
    }

    private boolean isMap(int m) {
        return m >= 0 && m < maps.size();
    }

    int thing(int t, int what) {
        if (!isThing(t) || what < 0 || what > 5) return BAD;
        Thing it = state.things.get(t);
        int[] all = {it.cell, it.from, it.to, it.kind,
            it.stands(state.year) ? 1 : 0, it.lost(state.year) ? 1 : 0};
        return all[what];
    }

    int at(int x) {
        if (!cell(x)) return BAD;
        for (int t = 0; t < state.things.size(); t++) if (state.things.get(t).cell == x) return t;
        return NONE;
    }

    int free(int x, int year) {
        if (!cell(x) || year < 0 || year > 199) return BAD;
        return standing(state, year).contains(x) ? 0 : 1;
    }

    private static Set<Integer> standing(State s, int year) {
        Set<Integer> cells = new HashSet<>();
        for (Thing t : s.things) if (t.stands(year)) cells.add(t.cell);
        return cells;
    }

    private Set<Integer> truth(State s, int year) {
        Set<Integer> cells = new TreeSet<>();
        for (Thing t : s.things) {
            if (t.lost(year) && t.kind != 3) {
                boolean end = t.cell % columns == columns - 1;
                cells.add(t.kind == 2 && !end ? t.cell + 1 : t.cell);
            }
        }
        return cells;
    }

    private Set<Integer> shown(int year, int d, int e) {
        Set<Integer> cells = new TreeSet<>();
        for (int x : truth(state, year)) {
            int row = x / columns + d - 2;
            int column = x % columns + e - 2;
            if (row >= 0 && row < rows && column >= 0 && column < columns) cells.add(row * columns + column);
        }
        return cells;
    }

    private Set<Integer> shown(int m) {
        int[] it = maps.get(m);
        return shown(it[0], it[1], it[2]);
    }

    int map(int m, int what) {
        if (!isMap(m) || what < 0 || what > 3) return BAD;
        return what == 3 ? shown(m).size() : maps.get(m)[what];
    }

    int shows(int m, int x) {
        if (!isMap(m) || !cell(x)) return BAD;
        return shown(m).contains(x) ? 1 : 0;
    }

    // ---- years

    private void remember() {
        undone.add(state.copy());
        if (undone.size() > 8) undone.remove(0);
    }

    int pass(int n) {
        if (n < 1 || n > 30) return BAD;
        if (state.year + n > 98) return NO;
        remember();
        state.year += n;
        return state.year;
    }

    private static boolean canBurn(State s, Thing t) {
        return t.stands(s.year) && t.kind != 1;
    }

    private static void setFire(State s, Thing t) {
        t.never = false;
        t.to = s.year;
    }

    int burn(int t) {
        if (!isThing(t)) return BAD;
        if (!canBurn(state, state.things.get(t))) return NO;
        remember();
        setFire(state, state.things.get(t));
        return state.things.get(t).kind;
    }

    int build(int x) {
        if (!cell(x)) return BAD;
        if (at(x) >= 0) return NO;
        if (state.things.size() == 10) return FULL;
        remember();
        state.things.add(new Thing(x, state.year, 99, 0, true));
        return state.things.size() - 1;
    }

    int undo() {
        if (undone.isEmpty()) return NO;
        state = undone.remove(undone.size() - 1);
        return undone.size();
    }

    // ---- walks

    private List<Integer> beside(int x) {
        List<Integer> cells = new ArrayList<>();
        if (x / columns > 0) cells.add(x - columns);
        if (x / columns < rows - 1) cells.add(x + columns);
        if (x % columns < columns - 1) cells.add(x + 1);
        if (x % columns > 0) cells.add(x - 1);
        return cells;
    }

    /** The fewest steps inside a set, by spreading out ring by ring; -1 for none. */
    private int steps(Set<Integer> inside, int a, int b) {
        if (!inside.contains(a) || !inside.contains(b)) return -1;
        Set<Integer> reached = new HashSet<>();
        Set<Integer> ring = new HashSet<>();
        ring.add(a);
        for (int n = 0; !ring.isEmpty(); n++) {
            if (ring.contains(b)) return n;
            reached.addAll(ring);
            Set<Integer> next = new HashSet<>();
            for (int x : ring) for (int y : beside(x)) if (inside.contains(y) && !reached.contains(y)) next.add(y);
            ring = next;
        }
        return -1;
    }

    private Set<Integer> freeNow(State s) {
        Set<Integer> cells = new HashSet<>();
        for (int x = 0; x < rows * columns; x++) cells.add(x);
        cells.removeAll(standing(s, s.year));
        return cells;
    }

    private int wayIn(State s, int a, int b) {
        return steps(freeNow(s), a, b);
    }

    private static int orNone(int n) {
        return n < 0 ? NONE : n;
    }

    int way(int a, int b) {
        if (!cell(a) || !cell(b)) return BAD;
        return orNone(wayIn(state, a, b));
    }

    int sure(int m, int a, int b) {
        if (!isMap(m) || !cell(a) || !cell(b)) return BAD;
        return orNone(steps(shown(m), a, b));
    }

    int pull(int a, int b, boolean friend) {
        if (!cell(a) || !cell(b)) return BAD;
        int least = 99;
        for (int set = 0; set < 1 << state.things.size(); set++) {
            if (Integer.bitCount(set) < least && opens(set, a, b, friend)) least = Integer.bitCount(set);
        }
        return least == 99 ? NONE : least;
    }

    private boolean opens(int set, int a, int b, boolean friend) {
        State s = state.copy();
        for (int t = s.things.size() - 1; t >= 0; t--) {
            if ((set >> t & 1) == 0) continue;
            Thing it = s.things.get(t);
            if (friend ? !canBurn(s, it) : !it.stands(s.year)) return false;
            if (friend) setFire(s, it);
            else s.things.remove(t);
        }
        return steps(friend ? truth(s, s.year) : freeNow(s), a, b) >= 0;
    }

    int wander(int m, int a, int b) {
        if (!isMap(m) || !cell(a) || !cell(b)) return BAD;
        Set<Integer> stands = standing(state, state.year);
        if (stands.contains(a) || stands.contains(b)) return NONE;
        Set<Integer> shown = shown(m);
        Set<Integer> known = new HashSet<>();
        int x = a;
        for (int n = 0; n <= 200; n++) {
            if (x == b) return n;
            for (int y : beside(x)) if (stands.contains(y)) known.add(y);
            int next = -1;
            int least = 9999;
            for (int y : beside(x)) {
                if (known.contains(y)) continue;
                int price = (shown.contains(y) ? 1 : 2) + cheapest(shown, known, y, b);
                if (price < least) {
                    least = price;
                    next = y;
                }
            }
            if (next < 0) return NONE;
            x = next;
        }
        return NONE;
    }

    /** By settling the cheapest open cell, forward from where one stands. */
    private int cheapest(Set<Integer> shown, Set<Integer> known, int from, int to) {
        int[] price = new int[rows * columns];
        boolean[] settled = new boolean[rows * columns];
        Arrays.fill(price, 9999);
        price[from] = 0;
        while (true) {
            int x = -1;
            for (int y = 0; y < price.length; y++) {
                if (!settled[y] && price[y] < 9999 && (x < 0 || price[y] < price[x])) x = y;
            }
            if (x < 0) return 9999;
            if (x == to) return price[x];
            settled[x] = true;
            for (int y : beside(x)) {
                if (!known.contains(y)) price[y] = Math.min(price[y], price[x] + (shown.contains(y) ? 1 : 2));
            }
        }
    }

    // ---- maps

    int wrong(int m, int what) {
        if (!isMap(m) || what < 0 || what > 1) return BAD;
        Set<Integer> cells = new TreeSet<>(shown(m));
        for (Thing t : state.things) if (t.lost(maps.get(m)[0])) cells.remove(t.cell);
        if (what == 0) return cells.size();
        return cells.isEmpty() ? NONE : cells.iterator().next();
    }

    int older() {
        if (maps.isEmpty()) return NONE;
        int greatest = 0;
        for (int[] m : maps) greatest = Math.max(greatest, m[0]);
        List<Thing> fallen = new ArrayList<>();
        for (Thing t : state.things) if (t.kind != 3 && t.lost(greatest)) fallen.add(t);
        return orders(fallen, 0, new boolean[fallen.size()]);
    }

    /** Goes on with each thing that no other one left has to fall ahead of. */
    private int orders(List<Thing> fallen, int placed, boolean[] used) {
        if (placed == fallen.size()) return 1;
        int sum = 0;
        for (int t = 0; t < used.length; t++) {
            if (used[t] || mustWait(fallen, t, used)) continue;
            used[t] = true;
            sum += orders(fallen, placed + 1, used);
            used[t] = false;
        }
        return sum;
    }

    private boolean mustWait(List<Thing> fallen, int t, boolean[] used) {
        for (int u = 0; u < used.length; u++) {
            for (int[] m : maps) {
                if (!used[u] && fallen.get(u).lost(m[0]) && !fallen.get(t).lost(m[0])) return true;
            }
        }
        return false;
    }

    int seen(int x) {
        if (!cell(x)) return BAD;
        if (seen.size() == 12) return FULL;
        seen.add(x);
        return seen.size();
    }

    int forget() {
        int n = seen.size();
        seen.clear();
        return n;
    }

    int found(int what) {
        if (what < 0 || what > 1) return BAD;
        Set<Integer> wanted = new TreeSet<>(seen);
        List<Integer> hits = new ArrayList<>();
        for (int year = 0; year <= state.year; year++) {
            for (int d = 0; d < 5; d++) {
                for (int e = 0; e < 5; e++) {
                    if (shown(year, d, e).equals(wanted)) hits.add(25 * year + 5 * d + e);
                }
            }
        }
        return what == 0 ? hits.size() : hits.isEmpty() ? NONE : hits.get(0);
    }

    int round(int x) {
        if (!cell(x)) return BAD;
        List<Integer> stops = new ArrayList<>();
        for (Thing t : state.things) if (!t.never && t.to == state.year) stops.add(t.cell);
        if (stops.isEmpty() || stops.size() > 8) return NONE;
        return goRound(x, x, stops, 0);
    }

    private int goRound(int start, int x, List<Integer> stops, int used) {
        if (used == (1 << stops.size()) - 1) return apart(x, start);
        int least = 9999;
        for (int k = 0; k < stops.size(); k++) {
            if ((used >> k & 1) == 0) {
                int on = apart(x, stops.get(k)) + goRound(start, stops.get(k), stops, used | 1 << k);
                least = Math.min(least, on);
            }
        }
        return least;
    }

    private int apart(int x, int y) {
        return Math.abs(x / columns - y / columns) + Math.abs(x % columns - y % columns);
    }

    int fire(int a, int b, int what) {
        if (!cell(a) || !cell(b) || what < 0 || what > 1) return BAD;
        int now = wayIn(state, a, b);
        int best = -1;
        int shortest = 9999;
        for (int t = 0; t < state.things.size(); t++) {
            if (!canBurn(state, state.things.get(t))) continue;
            State s = state.copy();
            setFire(s, s.things.get(t));
            int then = wayIn(s, a, b);
            if (then >= 0 && then < shortest) {
                shortest = then;
                best = t;
            }
        }
        if (best < 0 || now >= 0 && shortest >= now) return NONE;
        return what == 0 ? best : shortest;
    }

    int land(int z, int n, int what) {
        if (z < 0 || z > 9999 || n < 1 || n > 60 || what < 0 || what > 1) return BAD;
        State s = state.copy();
        for (long k = 0; k < n; k++) {
            long x = 7919L * z + 6151L * k + 1;
            long draw = x * x % 65521;
            Thing t = s.things.get((int) (draw % s.things.size()));
            if (draw / 16 % 3 == 0 && canBurn(s, t)) setFire(s, t);
            s.year++;
        }
        return countOf(s, what == 1);
    }

    private static int countOf(State s, boolean lost) {
        int n = 0;
        for (Thing t : s.things) if (lost ? t.lost(s.year) : t.stands(s.year)) n++;
        return n;
    }

    int keep() {
        if (kept.size() == 2) return FULL;
        kept.add(state.copy());
        return kept.size();
    }

    int back() {
        if (kept.isEmpty()) return NO;
        state = kept.remove(kept.size() - 1);
        undone.clear();
        return kept.size();
    }

    int count(int what) {
        if (what < 0 || what > 9) return BAD;
        int[] all = {rows * columns, state.things.size(), maps.size(), state.year, countOf(state, false),
            countOf(state, true), seen.size(), undone.size(), kept.size(), text.length()};
        return all[what];
    }
}
