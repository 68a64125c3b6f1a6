import java.math.BigInteger;
import java.util.ArrayList;
import java.util.Arrays;
import java.util.Collections;
import java.util.HashMap;
import java.util.HashSet;
import java.util.LinkedHashMap;
import java.util.List;
import java.util.Map;
import java.util.Set;
import java.util.TreeMap;
import java.util.TreeSet;
import java.util.function.IntPredicate;
import java.util.regex.Matcher;
import java.util.regex.Pattern;

/**
 * The document a second time, in the slowest and plainest words: sets, lists and maps of CELLS.
 * It shares no code and, where it can, no way of working with NineMilesOff, so that both agree only
 * where both read the document alike.
 */
final class Model {
    /** GROUNDS as the document tells them, each KIND under another one. */
    private static class Plain {
        final int kind;
        final int figure;

        Plain(int kind, int figure) {
            this.kind = kind;
            this.figure = figure;
        }

        int height() { return 0; }
        boolean open(boolean winter) { return true; }
        int chance() { return 10; }
        int cost() { return 3; }
        int failure() { return figure == 0 ? -15 : figure; }

        static Plain of(int kind, int figure) {
            switch (kind) {
                case 0: return new Plain(kind, figure);
                case 1: return new Road(kind, figure);
                case 2: return new Hill(kind, figure);
                case 3: return new Mountain(kind, figure);
                case 4: return new Pass(kind, figure);
                case 5: return new River(kind, figure);
                case 6: return new Bridge(kind, figure);
                case 7: return new Wood(kind, figure);
                default: throw new AssertionError("kind " + kind);
            }
        }
    }

    private static class Road extends Plain {
        Road(int kind, int figure) { super(kind, figure); }
        @Override int cost() { return super.cost() - 2; }
        @Override int failure() { return -15; }
    }

    private static class Hill extends Plain {
        Hill(int kind, int figure) { super(kind, figure); }
        @Override int height() { return super.height() + 2; }
        @Override int chance() { return super.chance() - 1; }
        @Override int cost() { return super.cost() + 1; }
        @Override int failure() { return figure == 0 ? -15 : super.failure() + 100; }
    }

    private static class Mountain extends Hill {
        Mountain(int kind, int figure) { super(kind, figure); }
        @Override int height() { return super.height() + figure; }
        @Override boolean open(boolean winter) { return super.open(winter) && !winter; }
        @Override int chance() { return super.chance() - 4; }
        @Override int cost() { return super.cost() * 2; }
    }

    private static class Pass extends Mountain {
        Pass(int kind, int figure) { super(kind, figure); }
        @Override int height() { return super.height() / 2; }
        @Override boolean open(boolean winter) { return winter && figure <= 4 || super.open(winter); }
        @Override int chance() { return super.chance() + figure / 3; }
        @Override int cost() { return Math.max(1, super.cost() - figure); }
        @Override int failure() { return figure == 0 ? -15 : 200 + cost(); }
    }

    private static class River extends Plain {
        River(int kind, int figure) { super(kind, figure); }
        @Override boolean open(boolean winter) { return winter; }
        @Override int chance() { return 0; }
        @Override int cost() { return super.cost() + 6; }
    }

    private static class Bridge extends River {
        Bridge(int kind, int figure) { super(kind, figure); }
        @Override int height() { return super.height() + 1; }
        @Override boolean open(boolean winter) { return true; }
        @Override int chance() { return super.chance() + 8; }
        @Override int cost() { return super.cost() + figure; }
    }

    private static class Wood extends Plain {
        Wood(int kind, int figure) { super(kind, figure); }
        @Override int chance() { return super.chance() - figure; }
        @Override int cost() { return super.cost() + figure; }
    }

    /** All that THE IMAGE holds. */
    private static final class State implements Cloneable {
        Plain[] grounds = new Plain[36];
        boolean winter;
        int nearest = 3;
        int farthest = 6;
        int his = -4;
        int hers = -4;
        int day;
        int stopped;
        int pain;

        State copy() {
            State other = new State();
            other.grounds = grounds.clone();
            other.winter = winter;
            other.nearest = nearest;
            other.farthest = farthest;
            other.his = his;
            other.hers = hers;
            other.day = day;
            other.stopped = stopped;
            other.pain = pain;
            return other;
        }

        boolean open(int cell) {
            return cell >= 0 && cell < 36 && grounds[cell].open(winter);
        }

        int far(int a, int b) {
            int rows = Math.abs(a / 6 - b / 6);
            int columns = Math.abs(a % 6 - b % 6);
            return rows + columns + Math.abs(grounds[a].height() - grounds[b].height()) / 2;
        }

        boolean off(int a, int b) {
            return far(a, b) < nearest || far(a, b) > farthest;
        }

        /** The CELL by a WAY, -4 if it can not be gone. */
        int by(int cell, int way) {
            if (cell < 0) {
                return -4;
            }
            int row = cell / 6 + (way == 4 ? 1 : way == 1 ? -1 : 0);
            int column = cell % 6 + (way == 3 ? 1 : way == 2 ? -1 : 0);
            boolean inside = row >= 0 && row < 6 && column >= 0 && column < 6;
            return way == 0 ? cell : inside && open(6 * row + column) ? 6 * row + column : -4;
        }

        int go(int hisWay, int herWay) {
            int a = by(his, hisWay);
            int b = by(hers, herWay);
            if (a < 0 || b < 0 || day == 999) {
                return -3;
            }
            day++;
            his = a;
            hers = b;
            tell();
            return far(a, b);
        }

        void tell() {
            stopped += far(his, hers) < nearest ? 1 : 0;
            pain += far(his, hers) > farthest ? 1 : 0;
        }
    }

    /** What a SHELF holds: a GROUND or a ROW, the other one is null. */
    private static final class Held {
        Plain ground;
        int sort;
        byte[] bytes;
        int[] ints;
        long[] longs;

        int size() {
            return ground != null ? -1 : sort == 0 ? bytes.length : sort == 1 ? ints.length : longs.length;
        }

        long get(int i) {
            return sort == 0 ? bytes[i] : sort == 1 ? ints[i] : longs[i];
        }

        Object array() {
            return sort == 0 ? bytes : sort == 1 ? (Object) ints : longs;
        }

        boolean skips(int i) {
            return sort == 0 ? bytes[i] == Byte.MIN_VALUE
                : sort == 1 ? ints[i] == Integer.MIN_VALUE : longs[i] == Long.MIN_VALUE;
        }
    }

    private State now = new State();
    private State image;
    private final Held[] shelves = new Held[8];

    Model() {
        Arrays.fill(now.grounds, Plain.of(0, 0));
    }

    private static boolean out(int number, int most) {
        return number < 0 || number > most;
    }

    private static long asLong(int refusal) {
        return -1000000000L + refusal;
    }

    private int wants(int d, boolean row) {
        if (out(d, 7)) {
            return -1;
        }
        if (shelves[d] == null) {
            return -11;
        }
        return (shelves[d].ground == null) == row ? 0 : -12;
    }

    private boolean nobody() {
        return now.his < 0 || now.hers < 0;
    }

    // ---- the land as told

    private static final String STATEMENT = "(?:g\\d{4};|h\\d{2};|s\\d{2};|n\\d{4};|w\\d;|d\\d{2};)";
    private static final Pattern LAND = Pattern.compile(STATEMENT + "+");
    private static final Pattern ONE = Pattern.compile(STATEMENT);

    private static boolean canGoOn(String text) {
        Matcher matcher = LAND.matcher(text);
        return matcher.matches() || matcher.hitEnd();
    }

    int land(int d) {
        int refusal = wants(d, true);
        if (refusal != 0) {
            return refusal;
        }
        if (shelves[d].sort != 0) {
            return -12;
        }
        StringBuilder read = new StringBuilder();
        for (byte sign : shelves[d].bytes) {
            read.append((char) (sign & 255));
        }
        String text = read.toString();
        for (int place = 0; place < text.length(); place++) {
            if (!canGoOn(text.substring(0, place + 1))) {
                return -1000 - place;
            }
        }
        if (!LAND.matcher(text).matches()) {
            return -1000 - text.length();
        }
        State state = now.copy();
        Matcher matcher = ONE.matcher(text);
        int statements = 0;
        while (matcher.find()) {
            if (!done(state, matcher.group())) {
                return -2000 - matcher.start();
            }
            statements++;
        }
        now = state;
        return statements;
    }

    private static boolean done(State state, String statement) {
        String digits = statement.substring(1, statement.length() - 1);
        int all = Integer.parseInt(digits);
        switch (statement.charAt(0)) {
            case 'g':
                if (all / 1000 > 7 || all % 100 > 35) {
                    return false;
                }
                state.grounds[all % 100] = Plain.of(all / 1000, all / 100 % 10);
                return true;
            case 'h':
                state.his = state.open(all) ? all : state.his;
                return state.open(all);
            case 's':
                state.hers = state.open(all) ? all : state.hers;
                return state.open(all);
            case 'n':
                state.nearest = all / 100;
                state.farthest = all % 100;
                return all / 100 <= 20 && all % 100 <= 20;
            case 'w':
                state.winter = all == 1;
                return all <= 1;
            default:
                return all / 10 <= 4 && all % 10 <= 4 && state.go(all / 10, all % 10) >= 0;
        }
    }

    int ground(int cell, int what) {
        if (out(cell, 35) || out(what, 4)) {
            return -1;
        }
        Plain ground = now.grounds[cell];
        return new int[] {ground.kind, ground.figure, ground.height(), now.open(cell) ? 1 : 0, ground.chance()}[what];
    }

    int lays(int d, int cell) {
        if (out(cell, 35)) {
            return -1;
        }
        int refusal = wants(d, false);
        if (refusal != 0) {
            return refusal;
        }
        int before = now.grounds[cell].kind;
        now.grounds[cell] = shelves[d].ground;
        return before;
    }

    int stands(int who, int cell) {
        if (out(who, 1) || out(cell, 35)) {
            return -1;
        }
        if (!now.open(cell)) {
            return -3;
        }
        int before;
        if (who == 0) {
            before = now.his;
            now.his = cell;
        } else {
            before = now.hers;
            now.hers = cell;
        }
        return before;
    }

    int set(int what, int v) {
        if (out(what, 2) || out(v, what == 2 ? 1 : 20)) {
            return -1;
        }
        int before = what == 0 ? now.nearest : what == 1 ? now.farthest : now.winter ? 1 : 0;
        if (what == 0) {
            now.nearest = v;
        } else if (what == 1) {
            now.farthest = v;
        } else {
            now.winter = v == 1;
        }
        return before;
    }

    int go(int his, int hers) {
        return out(his, 4) || out(hers, 4) ? -1 : now.go(his, hers);
    }

    int far(int a, int b) {
        return out(a, 35) || out(b, 35) ? -1 : now.far(a, b);
    }

    // ---- the land

    /** STEPS to each CELL that can be come to by CELLS that are fit for it. */
    private static Map<Integer, Integer> stepsFrom(int from, IntPredicate fit) {
        Map<Integer, Integer> steps = new LinkedHashMap<>();
        if (!fit.test(from)) {
            return steps;
        }
        steps.put(from, 0);
        List<Integer> queue = new ArrayList<>(List.of(from));
        for (int i = 0; i < queue.size(); i++) {
            int cell = queue.get(i);
            for (int to = 0; to < 36; to++) {
                if (beside(cell, to) && fit.test(to) && !steps.containsKey(to)) {
                    steps.put(to, steps.get(cell) + 1);
                    queue.add(to);
                }
            }
        }
        return steps;
    }

    private static boolean beside(int a, int b) {
        return Math.abs(a / 6 - b / 6) + Math.abs(a % 6 - b % 6) == 1;
    }

    int steps(int from, int to) {
        if (out(from, 35) || out(to, 35)) {
            return -1;
        }
        return stepsFrom(from, now::open).getOrDefault(to, -4);
    }

    private static List<Integer> pairsOf(State state) {
        List<Integer> pairs = new ArrayList<>();
        for (int his = 0; his < 36; his++) {
            for (int hers = 0; hers < 36; hers++) {
                if (state.open(his) && state.open(hers) && !state.off(his, hers)) {
                    pairs.add(100 * his + hers);
                }
            }
        }
        return pairs;
    }

    int pairs(int i) {
        if (i < -1) {
            return -1;
        }
        List<Integer> pairs = pairsOf(now);
        return i == -1 ? pairs.size() : i < pairs.size() ? pairs.get(i) : -4;
    }

    private List<TreeSet<Integer>> parts() {
        List<TreeSet<Integer>> parts = new ArrayList<>();
        for (int cell = 0; cell < 36; cell++) {
            TreeSet<Integer> part = new TreeSet<>(stepsFrom(cell, now::open).keySet());
            if (!part.isEmpty() && !parts.contains(part)) {
                parts.add(part);
            }
        }
        return parts;
    }

    int islands() {
        return parts().size();
    }

    int island(int cell) {
        if (out(cell, 35)) {
            return -1;
        }
        return now.open(cell) ? stepsFrom(cell, now::open).size() : -3;
    }

    int middle(int what) {
        if (out(what, 1)) {
            return -1;
        }
        TreeSet<Integer> largest = new TreeSet<>();
        for (TreeSet<Integer> part : parts()) {
            if (part.size() > largest.size() || part.size() == largest.size() && part.first() < largest.first()) {
                largest = part;
            }
        }
        TreeMap<Integer, TreeSet<Integer>> byGreatest = new TreeMap<>();
        for (int cell : largest) {
            int greatest = Collections.max(stepsFrom(cell, now::open).values());
            byGreatest.computeIfAbsent(greatest, k -> new TreeSet<>()).add(cell);
        }
        if (byGreatest.isEmpty()) {
            return -4;
        }
        return what == 0 ? byGreatest.firstEntry().getValue().first() : byGreatest.firstKey();
    }

    // ---- both

    private static List<Integer> around(int cell) {
        List<Integer> cells = new ArrayList<>();
        for (int to = 0; to < 36; to++) {
            if (to == cell || beside(cell, to)) {
                cells.add(to);
            }
        }
        return cells;
    }

    /**
     * Of the first of the shortest ways to each PAIR: the PAIR ahead of it, and its DAYS. From the front on,
     * the PAIRS of a DAY in the order of their ways.
     */
    private static Map<Integer, int[]> firstWays(Set<Integer> pairs, int start) {
        Map<Integer, int[]> ways = new HashMap<>();
        if (!pairs.contains(start)) {
            return ways;
        }
        ways.put(start, new int[] {start, 0});
        List<Integer> queue = new ArrayList<>(List.of(start));
        for (int i = 0; i < queue.size(); i++) {
            int pair = queue.get(i);
            int days = ways.get(pair)[1] + 1;
            for (int his : around(pair / 100)) {
                for (int hers : around(pair % 100)) {
                    int next = 100 * his + hers;
                    if (pairs.contains(next) && ways.putIfAbsent(next, new int[] {pair, days}) == null) {
                        queue.add(next);
                    }
                }
            }
        }
        return ways;
    }

    private List<Integer> wayTo(Set<Integer> pairs, int his, int hers) {
        Map<Integer, int[]> ways = firstWays(pairs, 100 * now.his + now.hers);
        if (!ways.containsKey(100 * his + hers)) {
            return null;
        }
        List<Integer> way = new ArrayList<>(List.of(100 * his + hers));
        while (ways.get(way.get(0))[1] > 0) {
            way.add(0, ways.get(way.get(0))[0]);
        }
        return way;
    }

    private Set<Integer> pairSet() {
        return new HashSet<>(pairsOf(now));
    }

    private int toSee(int his, int hers) {
        return out(his, 35) || out(hers, 35) ? -1 : nobody() ? -3 : 0;
    }

    int see(int his, int hers) {
        int refusal = toSee(his, hers);
        if (refusal != 0) {
            return refusal;
        }
        List<Integer> way = wayTo(pairSet(), his, hers);
        return way == null ? -4 : way.size() - 1;
    }

    int way(int his, int hers, int n) {
        int refusal = n < 0 ? -1 : toSee(his, hers);
        if (refusal != 0) {
            return refusal;
        }
        List<Integer> way = wayTo(pairSet(), his, hers);
        return way == null || n >= way.size() ? -4 : way.get(n);
    }

    int hinders(int his, int hers) {
        int refusal = toSee(his, hers);
        if (refusal != 0) {
            return refusal;
        }
        if (wayTo(pairSet(), his, hers) != null) {
            return -4;
        }
        int best = -4;
        int soonest = Integer.MAX_VALUE;
        for (int cell = 0; cell < 36; cell++) {
            if (now.open(cell)) {
                continue;
            }
            Set<Integer> pairs = pairSet();
            for (int other = 0; other < 36; other++) {
                if ((other == cell || now.open(other)) && !now.off(cell, other)) {
                    pairs.add(100 * cell + other);
                    pairs.add(100 * other + cell);
                }
            }
            List<Integer> way = wayTo(pairs, his, hers);
            if (way != null && way.size() < soonest) {
                soonest = way.size();
                best = cell;
            }
        }
        return best;
    }

    int needs(int his, int hers) {
        int refusal = toSee(his, hers);
        if (refusal != 0) {
            return refusal;
        }
        State other = now.copy();
        for (other.farthest = 0; other.farthest <= 20; other.farthest++) {
            if (wayTo(new HashSet<>(pairsOf(other)), his, hers) != null) {
                return other.farthest;
            }
        }
        return -4;
    }

    /** How many WAYS of n DAYS there are to each PAIR. */
    private Map<Integer, Long> walks(int n) {
        Set<Integer> pairs = pairSet();
        Map<Integer, Long> walks = new HashMap<>();
        int start = 100 * now.his + now.hers;
        if (pairs.contains(start)) {
            walks.put(start, 1L);
        }
        for (int day = 0; day < n; day++) {
            Map<Integer, Long> next = new HashMap<>();
            for (Map.Entry<Integer, Long> walk : walks.entrySet()) {
                for (int his : around(walk.getKey() / 100)) {
                    for (int hers : around(walk.getKey() % 100)) {
                        if (pairs.contains(100 * his + hers)) {
                            next.merge(100 * his + hers, walk.getValue(), Long::sum);
                        }
                    }
                }
            }
            walks = next;
        }
        return walks;
    }

    int within(int n) {
        if (out(n, 40)) {
            return -1;
        }
        if (nobody()) {
            return -3;
        }
        int many = 0;
        for (int[] way : firstWays(pairSet(), 100 * now.his + now.hers).values()) {
            many += way[1] <= n ? 1 : 0;
        }
        return many;
    }

    long ways(int n) {
        if (out(n, 10)) {
            return asLong(-1);
        }
        if (nobody()) {
            return asLong(-3);
        }
        long sum = 0;
        for (long many : walks(n).values()) {
            sum += many;
        }
        return sum;
    }

    long rounds(int n) {
        if (out(n, 10)) {
            return asLong(-1);
        }
        if (nobody()) {
            return asLong(-3);
        }
        return walks(n).getOrDefault(100 * now.his + now.hers, 0L);
    }

    // ---- letters

    private Set<Integer> goneOn(Set<Integer> cells) {
        Set<Integer> on = new TreeSet<>();
        for (int cell : cells) {
            for (int to : around(cell)) {
                if (now.open(to)) {
                    on.add(to);
                }
            }
        }
        return on;
    }

    int late(int cell, int d) {
        if (out(cell, 35) || out(d, 8)) {
            return -1;
        }
        if (now.his < 0 || !now.open(cell)) {
            return -3;
        }
        Set<Integer> hers = new TreeSet<>(Set.of(cell));
        for (int day = 0; day <= d; day++) {
            hers = goneOn(hers);
        }
        int bits = 0;
        for (int way = 0; way <= 4; way++) {
            int his = now.by(now.his, way);
            boolean safe = his >= 0;
            for (int her : hers) {
                safe = safe && !now.off(his, her);
            }
            bits |= safe ? 1 << way : 0;
        }
        return bits;
    }

    private int trackRefusal(int d) {
        int refusal = wants(d, true);
        if (refusal != 0) {
            return refusal;
        }
        if (shelves[d].size() == 0) {
            return -13;
        }
        for (int i = 0; i < shelves[d].size(); i++) {
            if (shelves[d].get(i) < 0 || shelves[d].get(i) > 35) {
                return -13;
            }
        }
        return 0;
    }

    private Set<Integer> seen(int his, Set<Integer> cells) {
        Set<Integer> fit = new TreeSet<>();
        for (int cell : cells) {
            if (now.open(cell) && !now.off(his, cell)) {
                fit.add(cell);
            }
        }
        return fit;
    }

    /** HER CELLS at each end, from those of the first one on. */
    private List<Set<Integer>> follow(Held row, int first, Set<Integer> start) {
        List<Set<Integer>> ends = new ArrayList<>();
        Set<Integer> cells = start;
        ends.add(cells);
        for (int i = first + 1; i < row.size(); i++) {
            cells = seen((int) row.get(i), goneOn(cells));
            ends.add(cells);
        }
        return ends;
    }

    private List<Set<Integer>> followAll(Held row) {
        Set<Integer> all = new TreeSet<>();
        for (int cell = 0; cell < 36; cell++) {
            all.add(cell);
        }
        return follow(row, 0, seen((int) row.get(0), all));
    }

    long hisWay(int d, int what) {
        int refusal = out(what, 1) ? -1 : trackRefusal(d);
        if (refusal != 0) {
            return asLong(refusal);
        }
        List<Set<Integer>> ends = followAll(shelves[d]);
        Set<Integer> last = ends.get(ends.size() - 1);
        long bits = 0;
        for (int cell : last) {
            bits += 1L << cell;
        }
        return what == 0 ? bits : last.size();
    }

    int letter(int d) {
        int refusal = trackRefusal(d);
        if (refusal != 0) {
            return refusal;
        }
        List<Set<Integer>> ends = followAll(shelves[d]);
        if (ends.get(ends.size() - 1).isEmpty()) {
            return -4;
        }
        int best = -4;
        int fewest = 37;
        for (int i = 0; i < ends.size(); i++) {
            int worst = 0;
            for (int cell : ends.get(i)) {
                List<Set<Integer>> told = follow(shelves[d], i, new TreeSet<>(Set.of(cell)));
                worst = Math.max(worst, told.get(told.size() - 1).size());
            }
            if (worst < fewest) {
                fewest = worst;
                best = i;
            }
        }
        return best;
    }

    int third(int what) {
        if (out(what, 1)) {
            return -1;
        }
        if (nobody()) {
            return -3;
        }
        TreeSet<Integer> cells = new TreeSet<>();
        for (int cell = 0; cell < 36; cell++) {
            if (now.open(cell) && !now.off(cell, now.his) && !now.off(cell, now.hers)) {
                cells.add(cell);
            }
        }
        return what == 0 ? cells.size() : cells.isEmpty() ? -4 : cells.first();
    }

    // ---- a game, snows, means

    int game(int what) {
        if (out(what, 1)) {
            return -1;
        }
        if (nobody()) {
            return -3;
        }
        TreeMap<Integer, TreeMap<Integer, Integer>> fars = new TreeMap<>();
        for (int h = 0; h <= 4; h++) {
            for (int s = 0; s <= 4; s++) {
                if (now.by(now.his, h) >= 0 && now.by(now.hers, s) >= 0) {
                    int far = now.far(now.by(now.his, h), now.by(now.hers, s));
                    fars.computeIfAbsent(h, k -> new TreeMap<>()).put(s, far);
                }
            }
        }
        int leastSure = 99;
        for (TreeMap<Integer, Integer> row : fars.values()) {
            leastSure = Math.min(leastSure, Collections.max(row.values()));
        }
        if (what == 1) {
            return leastSure;
        }
        for (int h : fars.keySet()) {
            for (int s : fars.get(h).keySet()) {
                List<Integer> column = new ArrayList<>();
                for (TreeMap<Integer, Integer> row : fars.values()) {
                    column.add(row.get(s));
                }
                int far = fars.get(h).get(s);
                if (far == Collections.min(column) && far == Collections.max(fars.get(h).values())) {
                    return 10 * h + s;
                }
            }
        }
        return -4;
    }

    private static long part(BigInteger above, BigInteger below, int part) {
        BigInteger divisor = above.gcd(below);
        return (part == 0 ? above : below).divide(divisor).longValueExact();
    }

    /** In how many of the tenths' powers there is a way, the CELLS from one on being still unknown. */
    private BigInteger snowed(int cell, Set<Integer> passable, int from, int to) {
        if (cell == 36) {
            boolean way = stepsFrom(from, passable::contains).containsKey(to);
            return way ? BigInteger.ONE : BigInteger.ZERO;
        }
        int chance = now.grounds[cell].chance();
        BigInteger sum = BigInteger.ZERO;
        if (chance > 0) {
            passable.add(cell);
            sum = sum.add(snowed(cell + 1, passable, from, to).multiply(BigInteger.valueOf(chance)));
            passable.remove(cell);
        }
        if (chance < 10) {
            sum = sum.add(snowed(cell + 1, passable, from, to).multiply(BigInteger.valueOf(10 - chance)));
        }
        return sum;
    }

    long snow(int from, int to, int part) {
        if (out(from, 35) || out(to, 35) || out(part, 1)) {
            return asLong(-1);
        }
        int unsure = 0;
        for (Plain ground : now.grounds) {
            unsure += ground.chance() % 10 != 0 ? 1 : 0;
        }
        if (unsure > 8) {
            return asLong(-3);
        }
        return part(snowed(0, new HashSet<>(), from, to), BigInteger.TEN.pow(36), part);
    }

    long mean(int part) {
        if (out(part, 1)) {
            return asLong(-1);
        }
        long sum = 0;
        List<Integer> pairs = pairsOf(now);
        for (int pair : pairs) {
            sum += now.far(pair / 100, pair % 100);
        }
        if (pairs.isEmpty()) {
            return part;
        }
        return part(BigInteger.valueOf(sum), BigInteger.valueOf(pairs.size()), part);
    }

    int curve(int v) {
        if (out(v, 20)) {
            return -1;
        }
        State other = now.copy();
        other.farthest = v;
        return pairsOf(other).size();
    }

    // ---- told ways, walks by seeds

    int judge(int d) {
        if (out(d, 7)) {
            return -1;
        }
        if (now.his < 0) {
            return -3;
        }
        int refusal = wants(d, true);
        if (refusal != 0) {
            return refusal;
        }
        Held row = shelves[d];
        int last = now.his;
        int since = 0;
        for (int i = 0; i < row.size(); i++) {
            since += i == 0 ? 0 : 1;
            if (row.skips(i)) {
                continue;
            }
            long told = row.get(i);
            if (i == 0 ? told != now.his : told < 0 || told > 35 || !reaches(last, (int) told, since)) {
                return i;
            }
            last = (int) told;
            since = 0;
        }
        return -4;
    }

    /** From a CELL, OPEN or not, onto one that is OPEN, by at most so many STEPS. */
    private boolean reaches(int from, int to, int steps) {
        if (!now.open(to)) {
            return false;
        }
        Integer fewest = stepsFrom(from, cell -> cell == from || now.open(cell)).get(to);
        return fewest != null && fewest <= steps;
    }

    int seeds(int n, int z, int what) {
        if (n < 1 || n > 20 || out(what, 1)) {
            return -1;
        }
        if (nobody()) {
            return -3;
        }
        int[] draws = new int[40 * n];
        long seed = z;
        for (int i = 0; i < draws.length; i++) {
            seed = (int) (seed * 1103515245L + 12345L);
            draws[i] = (int) ((seed & Integer.MAX_VALUE) / 65536L % 5L);
        }
        State sum = now.copy();
        sum.stopped = 0;
        sum.pain = 0;
        for (int i = 0; i < draws.length; i += 2) {
            if (i % 40 == 0) {
                sum.his = now.his;
                sum.hers = now.hers;
            }
            int his = sum.by(sum.his, draws[i]);
            int hers = sum.by(sum.hers, draws[i + 1]);
            sum.his = his < 0 ? sum.his : his;
            sum.hers = hers < 0 ? sum.hers : hers;
            sum.tell();
        }
        return what == 0 ? sum.stopped : sum.pain;
    }

    // ---- the image, what is told

    int image() {
        image = now.copy();
        return now.day;
    }

    int restore() {
        if (image == null) {
            return -3;
        }
        now = image.copy();
        return now.day;
    }

    int count(int what) {
        if (out(what, 8)) {
            return -1;
        }
        int open = 0;
        for (int cell = 0; cell < 36; cell++) {
            open += now.open(cell) ? 1 : 0;
        }
        return new int[] {now.his, now.hers, now.day, now.stopped, now.pain, now.nearest, now.farthest,
            now.winter ? 1 : 0, open}[what];
    }

    // ---- shelves

    int keep(int d, int what, int k, int figure) {
        if (out(d, 7) || out(what, 1) || what == 1 && (out(k, 7) || out(figure, 9))) {
            return -1;
        }
        shelves[d] = null;
        if (what == 1) {
            shelves[d] = new Held();
            shelves[d].ground = Plain.of(k, figure);
        }
        return 0;
    }

    int row(int d, int sort, int n) {
        if (out(d, 7) || out(sort, 2) || n > 100) {
            return -1;
        }
        if (n < 0) {
            return -14;
        }
        Held held = new Held();
        held.sort = sort;
        held.bytes = new byte[n];
        held.ints = new int[n];
        held.longs = new long[n];
        shelves[d] = held;
        return 0;
    }

    int put(int d, int i, int v) {
        int refusal = wants(d, true);
        if (refusal != 0) {
            return refusal;
        }
        if (out(i, shelves[d].size() - 1)) {
            return -13;
        }
        shelves[d].bytes[i] = (byte) v;
        shelves[d].ints[i] = v;
        shelves[d].longs[i] = v;
        return 0;
    }

    long element(int d, int i) {
        if (out(d, 7)) {
            throw new IllegalArgumentException();
        }
        if (wants(d, true) != 0 || out(i, shelves[d].size() - 1)) {
            throw new IllegalStateException();
        }
        return shelves[d].get(i);
    }

    int copy(int d, int i, int e, int j, int n) {
        if (out(d, 7) || out(e, 7)) {
            return -1;
        }
        if (shelves[d] == null || shelves[e] == null) {
            return -11;
        }
        if (wants(d, true) != 0 || wants(e, true) != 0 || shelves[d].sort != shelves[e].sort) {
            return -12;
        }
        try {
            System.arraycopy(shelves[d].array(), i, shelves[e].array(), j, n);
        } catch (IndexOutOfBoundsException outside) {
            return -13;
        }
        return n;
    }

    int cost(int d) {
        int refusal = wants(d, false);
        return refusal != 0 ? refusal : shelves[d].ground.cost();
    }

    int toss(int d) {
        int refusal = wants(d, false);
        return refusal != 0 ? refusal : shelves[d].ground.failure();
    }
}
