import java.util.Arrays;

/**
 * Nine miles off: two who move by days over a land of cells and must keep so far from each other,
 * no nearer, no farther. DOC.md says what each call answers; its words in capitals are used here too.
 */
public final class NineMilesOff {
    private static final int SIDE = 6;
    private static final int CELLS = 36;
    private static final int SQUARED = CELLS * CELLS;
    private static final int WAYS = 5;
    private static final int STAY = 0;
    private static final int FAREST = 20;
    private static final int LAST_DAY = 999;
    private static final int SHELVES = 8;
    private static final int ELEMENTS = 100;

    private static final int NO_SUCH = -1;
    private static final int NOT_SO = -3;
    private static final int NONE = -4;
    private static final int NOTHING_HELD = -11;
    private static final int OTHER_KIND = -12;
    private static final int NO_PLACE = -13;
    private static final int BELOW_ZERO = -14;
    private static final int NO_FAILURE = -15;
    private static final int FINE = 0;
    private static final long OF_LONGS = 1000000000L;

    private final Land now;
    private final Land kept;
    private final Land trial;
    private boolean taken;
    private final Board board;
    private final Track track;
    private final Play play;
    private final Shelf[] shelves;
    private final Shelf noShelf;

    public NineMilesOff() {
        now = new Land();
        kept = new Land();
        trial = new Land();
        board = new Board();
        track = new Track();
        play = new Play();
        noShelf = new Shelf();
        shelves = new Shelf[SHELVES];
        for (int d = 0; d < shelves.length; d++) {
            shelves[d] = new Shelf();
        }
    }

    // ---- the land as told

    public int land(int d) {
        int refusal = refusalOfRow(d);
        if (refusal != FINE) {
            return refusal;
        }
        Shelf text = shelfAt(d);
        if (text.sort != Shelf.BYTES) {
            return OTHER_KIND;
        }
        int place = Text.firstWrongByte(text);
        if (place != NONE) {
            return -1000 - place;
        }
        trial.becomes(now);
        place = Text.firstNotDone(text, trial);
        if (place != NONE) {
            return -2000 - place;
        }
        now.becomes(trial);
        return Text.statementsOf(text);
    }

    public int ground(int cell, int what) {
        if (!isCell(cell)) {
            return NO_SUCH;
        }
        switch (what) {
            case 0: return now.kindAt(cell);
            case 1: return now.figureAt(cell);
            case 2: return now.heightAt(cell);
            case 3: return now.isOpen(cell) ? 1 : 0;
            case 4: return now.chanceAt(cell);
            default: return NO_SUCH;
        }
    }

    public int lays(int d, int cell) {
        int refusal = isCell(cell) ? refusalOfGround(d) : NO_SUCH;
        if (refusal != FINE) {
            return refusal;
        }
        int before = now.kindAt(cell);
        now.layAt(cell, shelfAt(d).kind, shelfAt(d).figure);
        return before;
    }

    public int stands(int who, int cell) {
        if (!isEither(who) || !isCell(cell)) {
            return NO_SUCH;
        }
        if (!now.isOpen(cell)) {
            return NOT_SO;
        }
        int before = who == 0 ? now.his : now.hers;
        now.place(who, cell);
        return before;
    }

    public int set(int what, int v) {
        int before;
        if (what == 0 && isDistance(v)) {
            before = now.nearest;
            now.nearest = v;
        } else if (what == 1 && isDistance(v)) {
            before = now.farthest;
            now.farthest = v;
        } else if (what == 2 && isEither(v)) {
            before = now.winter;
            now.winter = v;
        } else {
            before = NO_SUCH;
        }
        return before;
    }

    public int go(int his, int hers) {
        if (!isWay(his) || !isWay(hers)) {
            return NO_SUCH;
        }
        return now.goDay(his, hers) ? now.farBetween(now.his, now.hers) : NOT_SO;
    }

    public int far(int a, int b) {
        return isCell(a) && isCell(b) ? now.farBetween(a, b) : NO_SUCH;
    }

    // ---- the land

    public int steps(int from, int to) {
        return isCell(from) && isCell(to) ? Square.stepsBetween(from, to, now.openCells()) : NO_SUCH;
    }

    public int pairs(int i) {
        if (i < -1) {
            return NO_SUCH;
        }
        board.lay(now);
        return i == -1 ? board.pairsInAll() : board.pairAt(i);
    }

    public int islands() {
        return Square.islandsOf(now.openCells());
    }

    public int island(int cell) {
        if (!isCell(cell)) {
            return NO_SUCH;
        }
        long open = now.openCells();
        return Square.has(open, cell) ? Long.bitCount(Square.islandOf(cell, open)) : NOT_SO;
    }

    public int middle(int what) {
        if (!isEither(what)) {
            return NO_SUCH;
        }
        long open = now.openCells();
        int cell = Square.middleOf(open);
        return what == 0 || cell == NONE ? cell : Square.greatestSteps(cell, open);
    }

    // ---- both

    public int see(int his, int hers) {
        int refusal = refusalToSee(his, hers);
        if (refusal != FINE) {
            return refusal;
        }
        board.lay(now);
        return board.daysBetween(now.his, now.hers, his, hers);
    }

    public int way(int his, int hers, int n) {
        int refusal = n < 0 ? NO_SUCH : refusalToSee(his, hers);
        if (refusal != FINE) {
            return refusal;
        }
        board.lay(now);
        int days = board.daysBetween(now.his, now.hers, his, hers);
        return days == NONE || n > days ? NONE : board.pairOnWay(now.his, now.hers, n);
    }

    public int hinders(int his, int hers) {
        int refusal = refusalToSee(his, hers);
        if (refusal != FINE) {
            return refusal;
        }
        board.lay(now);
        if (board.daysBetween(now.his, now.hers, his, hers) != NONE) {
            return NONE;
        }
        long open = now.openCells();
        int best = NONE;
        int soonest = SQUARED;
        for (int cell = 0; cell < CELLS; cell++) {
            if (!Square.has(open, cell)) {
                board.admit(open | Square.bit(cell));
                int days = board.daysBetween(now.his, now.hers, his, hers);
                if (days != NONE && days < soonest) {
                    soonest = days;
                    best = cell;
                }
            }
        }
        return best;
    }

    public int needs(int his, int hers) {
        int refusal = refusalToSee(his, hers);
        if (refusal != FINE) {
            return refusal;
        }
        board.lay(now);
        long open = now.openCells();
        for (int v = 0; v <= FAREST; v++) {
            board.bound(now.nearest, v);
            board.admit(open);
            if (board.daysBetween(now.his, now.hers, his, hers) != NONE) {
                return v;
            }
        }
        return NONE;
    }

    public int within(int n) {
        if (n < 0 || n > 40) {
            return NO_SUCH;
        }
        if (!now.bothStand()) {
            return NOT_SO;
        }
        board.lay(now);
        return board.pairsWithin(now.his, now.hers, n);
    }

    public long ways(int n) {
        int refusal = refusalToCount(n);
        if (refusal != FINE) {
            return ofLongs(refusal);
        }
        board.lay(now);
        board.walk(now.his, now.hers, n);
        return board.walksInAll();
    }

    public long rounds(int n) {
        int refusal = refusalToCount(n);
        if (refusal != FINE) {
            return ofLongs(refusal);
        }
        board.lay(now);
        board.walk(now.his, now.hers, n);
        return board.walksTo(now.his, now.hers);
    }

    // ---- letters

    public int late(int cell, int d) {
        if (!isCell(cell) || d < 0 || d > 8) {
            return NO_SUCH;
        }
        if (now.his == NONE || !now.isOpen(cell)) {
            return NOT_SO;
        }
        board.lay(now);
        long hers = Square.cellsWithin(cell, d + 1, now.openCells());
        int safe = 0;
        for (int way = 0; way < WAYS; way++) {
            int his = now.cellBy(now.his, way);
            if (his != NONE && (hers & ~board.nearOf(his)) == 0) {
                safe |= 1 << way;
            }
        }
        return safe;
    }

    public long hisWay(int d, int what) {
        int refusal = isEither(what) ? refusalOfTrack(d) : NO_SUCH;
        if (refusal != FINE) {
            return ofLongs(refusal);
        }
        board.lay(now);
        long cells = track.follow(shelfAt(d), board, now.openCells());
        return what == 0 ? cells : Long.bitCount(cells);
    }

    public int letter(int d) {
        int refusal = refusalOfTrack(d);
        if (refusal != FINE) {
            return refusal;
        }
        board.lay(now);
        long cells = track.follow(shelfAt(d), board, now.openCells());
        return cells == 0 ? NONE : track.bestDay(shelfAt(d), board, now.openCells());
    }

    public int third(int what) {
        if (!isEither(what)) {
            return NO_SUCH;
        }
        if (!now.bothStand()) {
            return NOT_SO;
        }
        board.lay(now);
        long cells = board.nearOf(now.his) & board.nearOf(now.hers) & now.openCells();
        return what == 0 ? Long.bitCount(cells) : Square.leastOf(cells);
    }

    // ---- a game, snows, means

    public int game(int what) {
        if (!isEither(what)) {
            return NO_SUCH;
        }
        if (!now.bothStand()) {
            return NOT_SO;
        }
        play.lay(now);
        return what == 0 ? play.firstHeld() : play.leastSure();
    }

    public long snow(int from, int to, int part) {
        if (!isCell(from) || !isCell(to) || !isEither(part)) {
            return ofLongs(NO_SUCH);
        }
        int unsure = Long.bitCount(now.unsureCells());
        if (unsure > Snow.MOST_UNSURE) {
            return ofLongs(NOT_SO);
        }
        long below = 1;
        for (int i = 0; i < unsure; i++) {
            below *= Kinds.TENTHS;
        }
        return Fraction.partOf(Snow.likely(now, from, to), below, part);
    }

    public long mean(int part) {
        if (!isEither(part)) {
            return ofLongs(NO_SUCH);
        }
        board.lay(now);
        return Fraction.partOf(board.farsInAll(), board.pairsInAll(), part);
    }

    public int curve(int v) {
        if (!isDistance(v)) {
            return NO_SUCH;
        }
        board.lay(now);
        board.bound(now.nearest, v);
        board.admit(now.openCells());
        return board.pairsInAll();
    }

    // ---- told ways, walks by seeds

    public int judge(int d) {
        if (!isShelf(d)) {
            return NO_SUCH;
        }
        if (now.his == NONE) {
            return NOT_SO;
        }
        int refusal = refusalOfRow(d);
        return refusal != FINE ? refusal : Track.firstWrongPlace(shelfAt(d), now);
    }

    public int seeds(int n, int z, int what) {
        if (n < 1 || n > 20 || !isEither(what)) {
            return NO_SUCH;
        }
        if (!now.bothStand()) {
            return NOT_SO;
        }
        trial.becomes(now);
        trial.stopped = 0;
        trial.pain = 0;
        int seed = z;
        for (int walk = 0; walk < n; walk++) {
            trial.his = now.his;
            trial.hers = now.hers;
            for (int day = 0; day < 20; day++) {
                seed = nextSeed(seed);
                int his = trial.cellByOrStay(trial.his, drawOf(seed));
                seed = nextSeed(seed);
                int hers = trial.cellByOrStay(trial.hers, drawOf(seed));
                trial.endDay(his, hers);
            }
        }
        return what == 0 ? trial.stopped : trial.pain;
    }

    // ---- the image, what is told

    public int image() {
        kept.becomes(now);
        taken = true;
        return now.day;
    }

    public int restore() {
        if (!taken) {
            return NOT_SO;
        }
        now.becomes(kept);
        return now.day;
    }

    public int count(int what) {
        switch (what) {
            case 0: return now.his;
            case 1: return now.hers;
            case 2: return now.day;
            case 3: return now.stopped;
            case 4: return now.pain;
            case 5: return now.nearest;
            case 6: return now.farthest;
            case 7: return now.winter;
            case 8: return Long.bitCount(now.openCells());
            default: return NO_SUCH;
        }
    }

    // ---- shelves

    public int keep(int d, int what, int k, int figure) {
        if (!isShelf(d) || !isEither(what)) {
            return NO_SUCH;
        }
        if (what == 0) {
            shelfAt(d).holds = Shelf.NOTHING;
            return FINE;
        }
        if (!Kinds.isKind(k) || figure < 0 || figure > 9) {
            return NO_SUCH;
        }
        shelfAt(d).takeGround(k, figure);
        return FINE;
    }

    public int row(int d, int sort, int n) {
        if (!isShelf(d) || sort < Shelf.BYTES || sort > Shelf.LONGS || n > ELEMENTS) {
            return NO_SUCH;
        }
        if (n < 0) {
            return BELOW_ZERO;
        }
        shelfAt(d).takeRow(sort, n);
        return FINE;
    }

    public int put(int d, int i, int v) {
        int refusal = refusalOfRow(d);
        if (refusal != FINE) {
            return refusal;
        }
        if (!shelfAt(d).hasPlace(i)) {
            return NO_PLACE;
        }
        shelfAt(d).write(i, v);
        return FINE;
    }

    public long element(int d, int i) throws IllegalArgumentException, IllegalStateException {
        if (!isShelf(d)) {
            throw new IllegalArgumentException("no such shelf");
        }
        if (shelfAt(d).holds != Shelf.ROW) {
            throw new IllegalStateException("no row");
        }
        if (!shelfAt(d).hasPlace(i)) {
            throw new IllegalStateException("no such place");
        }
        return shelfAt(d).numberAt(i);
    }

    public int copy(int d, int i, int e, int j, int n) {
        if (!isShelf(d) || !isShelf(e)) {
            return NO_SUCH;
        }
        Shelf from = shelfAt(d);
        Shelf to = shelfAt(e);
        if (from.holds == Shelf.NOTHING || to.holds == Shelf.NOTHING) {
            return NOTHING_HELD;
        }
        if (from.holds != Shelf.ROW || to.holds != Shelf.ROW || from.sort != to.sort) {
            return OTHER_KIND;
        }
        if (!from.hasPlaces(i, n) || !to.hasPlaces(j, n)) {
            return NO_PLACE;
        }
        System.arraycopy(from.numbers, i, to.numbers, j, n);
        return n;
    }

    public int cost(int d) {
        int refusal = refusalOfGround(d);
        return refusal != FINE ? refusal : Kinds.costOf(shelfAt(d).kind, shelfAt(d).figure);
    }

    public int toss(int d) {
        int refusal = refusalOfGround(d);
        if (refusal != FINE) {
            return refusal;
        }
        int kind = shelfAt(d).kind;
        int figure = shelfAt(d).figure;
        // An exception carries no number here, so its class tells which FAILURE it is.
        try {
            Kinds.fail(kind, figure);
        } catch (UnsupportedOperationException ofPass) {
            return 200 + Kinds.costOf(kind, figure);
        } catch (IllegalStateException ofHeight) {
            return 100 + figure;
        } catch (IllegalArgumentException ofOther) {
            return figure;
        }
        return NO_FAILURE;
    }

    // ---- what calls are refused for

    private static boolean isCell(long number) {
        return number >= 0 && number < CELLS;
    }

    private static boolean isWay(int way) {
        return way >= 0 && way < WAYS;
    }

    private static boolean isEither(int number) {
        return number == 0 || number == 1;
    }

    private static boolean isDistance(int number) {
        return number >= 0 && number <= FAREST;
    }

    private static boolean isShelf(int d) {
        return d >= 0 && d < SHELVES;
    }

    private Shelf shelfAt(int d) {
        return d >= 0 && d < shelves.length ? shelves[d] : noShelf;
    }

    private int refusalOfRow(int d) {
        return refusalUnless(d, Shelf.ROW);
    }

    private int refusalOfGround(int d) {
        return refusalUnless(d, Shelf.GROUND);
    }

    private int refusalUnless(int d, int holds) {
        if (!isShelf(d)) {
            return NO_SUCH;
        }
        if (shelfAt(d).holds == Shelf.NOTHING) {
            return NOTHING_HELD;
        }
        return shelfAt(d).holds == holds ? FINE : OTHER_KIND;
    }

    private int refusalOfTrack(int d) {
        int refusal = refusalOfRow(d);
        if (refusal != FINE) {
            return refusal;
        }
        return Track.isOfCells(shelfAt(d)) ? FINE : NO_PLACE;
    }

    private int refusalToSee(int his, int hers) {
        if (!isCell(his) || !isCell(hers)) {
            return NO_SUCH;
        }
        return now.bothStand() ? FINE : NOT_SO;
    }

    private int refusalToCount(int days) {
        if (days < 0 || days > 10) {
            return NO_SUCH;
        }
        return now.bothStand() ? FINE : NOT_SO;
    }

    private static long ofLongs(int refusal) {
        return refusal - OF_LONGS;
    }

    private static int nextSeed(int seed) {
        return seed * 1103515245 + 12345;
    }

    private static int drawOf(int seed) {
        return (seed & 0x7fffffff) / 65536 % WAYS;
    }

    /** What each KIND is, worked out from the one that it is under. */
    private static final class Kinds {
        static final int PLAIN = 0;
        static final int ROAD = 1;
        static final int HILL = 2;
        static final int MOUNTAIN = 3;
        static final int PASS = 4;
        static final int RIVER = 5;
        static final int BRIDGE = 6;
        static final int WOOD = 7;

        static final int TENTHS = 10;

        static final int PLAIN_HEIGHT = 0;
        static final int HILL_HEIGHT = PLAIN_HEIGHT + 2;
        static final int BRIDGE_HEIGHT = PLAIN_HEIGHT + 1;

        static final int PLAIN_CHANCE = TENTHS;
        static final int HILL_CHANCE = PLAIN_CHANCE - 1;
        static final int MOUNTAIN_CHANCE = HILL_CHANCE - 4;
        static final int RIVER_CHANCE = 0;
        static final int BRIDGE_CHANCE = RIVER_CHANCE + 8;

        static final int PLAIN_COST = 3;
        static final int ROAD_COST = PLAIN_COST - 2;
        static final int HILL_COST = PLAIN_COST + 1;
        static final int MOUNTAIN_COST = 2 * HILL_COST;
        static final int RIVER_COST = PLAIN_COST + 6;

        static boolean isKind(int kind) {
            return kind >= PLAIN && kind <= WOOD;
        }

        static int heightOf(int kind, int figure) {
            switch (kind) {
                case HILL: return HILL_HEIGHT;
                case MOUNTAIN: return HILL_HEIGHT + figure;
                case PASS: return (HILL_HEIGHT + figure) / 2;
                case BRIDGE: return BRIDGE_HEIGHT;
                default: return PLAIN_HEIGHT;
            }
        }

        static boolean isOpen(int kind, int figure, int winter) {
            switch (kind) {
                case MOUNTAIN: return winter == 0;
                case PASS: return figure <= 4 || winter == 0;
                case RIVER: return winter == 1;
                default: return true;
            }
        }

        static int chanceOf(int kind, int figure) {
            switch (kind) {
                case HILL: return HILL_CHANCE;
                case MOUNTAIN: return MOUNTAIN_CHANCE;
                case PASS: return MOUNTAIN_CHANCE + figure / 3;
                case RIVER: return RIVER_CHANCE;
                case BRIDGE: return BRIDGE_CHANCE;
                case WOOD: return PLAIN_CHANCE - figure;
                default: return PLAIN_CHANCE;
            }
        }

        static int costOf(int kind, int figure) {
            switch (kind) {
                case ROAD: return ROAD_COST;
                case HILL: return HILL_COST;
                case MOUNTAIN: return MOUNTAIN_COST;
                case PASS: return Math.max(1, MOUNTAIN_COST - figure);
                case RIVER: return RIVER_COST;
                case BRIDGE: return RIVER_COST + figure;
                case WOOD: return PLAIN_COST + figure;
                default: return PLAIN_COST;
            }
        }

        static void fail(int kind, int figure) {
            if (kind == ROAD || figure == 0) {
                return;
            }
            switch (kind) {
                case PASS: throw new UnsupportedOperationException("a pass fails");
                case HILL: throw new IllegalStateException("a hill fails");
                case MOUNTAIN: throw new IllegalStateException("a mountain fails");
                default: throw new IllegalArgumentException("a ground fails");
            }
        }
    }

    /** The square and sets of its CELLS, a bit each: so a set goes a STEP in one go. */
    private static final class Square {
        static final long ALL = (1L << CELLS) - 1;
        static final long LEFTMOST = 0x41041041L;
        static final long RIGHTMOST = LEFTMOST << (SIDE - 1);

        static long bit(int cell) {
            return cell >= 0 && cell < CELLS ? 1L << cell : 0;
        }

        static boolean has(long cells, int cell) {
            return (cells & bit(cell)) != 0;
        }

        static int leastOf(long cells) {
            for (int cell = 0; cell < CELLS; cell++) {
                if (has(cells, cell)) {
                    return cell;
                }
            }
            return NONE;
        }

        static int apart(int a, int b) {
            return Math.abs(a / SIDE - b / SIDE) + Math.abs(a % SIDE - b % SIDE);
        }

        static int cellTo(int cell, int way) {
            if (!isCell(cell)) {
                return NONE;
            }
            switch (way) {
                case STAY: return cell;
                case 1: return cell >= SIDE ? cell - SIDE : NONE;
                case 2: return cell % SIDE > 0 ? cell - 1 : NONE;
                case 3: return cell % SIDE < SIDE - 1 ? cell + 1 : NONE;
                case 4: return cell < CELLS - SIDE ? cell + SIDE : NONE;
                default: return NONE;
            }
        }

        /** The CELLS with all that are beside them. */
        static long spread(long cells) {
            long across = cells | (cells & ~LEFTMOST) >> 1 | (cells & ~RIGHTMOST) << 1;
            return (across | cells >> SIDE | cells << SIDE) & ALL;
        }

        static long cellsWithin(int from, int steps, long open) {
            long come = bit(from) & open;
            for (int step = 0; step < steps; step++) {
                come = spread(come) & open;
            }
            return come;
        }

        static long islandOf(int cell, long open) {
            return cellsWithin(cell, CELLS, open);
        }

        static int islandsOf(long open) {
            long left = open;
            int islands = 0;
            for (int cell = 0; cell < CELLS; cell++) {
                if (has(left, cell)) {
                    left &= ~islandOf(cell, open);
                    islands++;
                }
            }
            return islands;
        }

        static long largestIsland(long open) {
            long left = open;
            long largest = 0;
            for (int cell = 0; cell < CELLS; cell++) {
                if (has(left, cell)) {
                    long island = islandOf(cell, open);
                    left &= ~island;
                    if (Long.bitCount(island) > Long.bitCount(largest)) {
                        largest = island;
                    }
                }
            }
            return largest;
        }

        static int stepsBetween(int from, int to, long open) {
            long come = bit(from) & open;
            for (int step = 0; step < CELLS; step++) {
                if (has(come, to)) {
                    return step;
                }
                come = spread(come) & open;
            }
            return NONE;
        }

        static int greatestSteps(int from, long open) {
            long come = bit(from) & open;
            for (int step = 0; step < CELLS; step++) {
                long more = spread(come) & open;
                if (more == come) {
                    return step;
                }
                come = more;
            }
            return NONE;
        }

        static int middleOf(long open) {
            long island = largestIsland(open);
            int middle = NONE;
            int fewest = CELLS;
            for (int cell = 0; cell < CELLS; cell++) {
                if (has(island, cell)) {
                    int greatest = greatestSteps(cell, open);
                    if (greatest < fewest) {
                        fewest = greatest;
                        middle = cell;
                    }
                }
            }
            return middle;
        }
    }

    /** All that THE IMAGE holds: GROUNDS, both, DAYS and what is wanted of them. */
    private static final class Land {
        final int[] kinds = new int[CELLS];
        final int[] figures = new int[CELLS];
        int winter = 0;
        int nearest = 3;
        int farthest = 6;
        int his = NONE;
        int hers = NONE;
        int day = 0;
        int stopped = 0;
        int pain = 0;

        void becomes(Land other) {
            for (int cell = 0; cell < CELLS; cell++) {
                kinds[cell] = other.kinds[cell];
                figures[cell] = other.figures[cell];
            }
            winter = other.winter;
            nearest = other.nearest;
            farthest = other.farthest;
            his = other.his;
            hers = other.hers;
            day = other.day;
            stopped = other.stopped;
            pain = other.pain;
        }

        int kindAt(int cell) {
            return isCell(cell) ? kinds[cell] : Kinds.PLAIN;
        }

        int figureAt(int cell) {
            return isCell(cell) ? figures[cell] : 0;
        }

        int heightAt(int cell) {
            return isCell(cell) ? Kinds.heightOf(kinds[cell], figures[cell]) : 0;
        }

        boolean isOpen(int cell) {
            return isCell(cell) && Kinds.isOpen(kinds[cell], figures[cell], winter);
        }

        int chanceAt(int cell) {
            return isCell(cell) ? Kinds.chanceOf(kinds[cell], figures[cell]) : 0;
        }

        long openCells() {
            long open = 0;
            for (int cell = 0; cell < CELLS; cell++) {
                if (isOpen(cell)) {
                    open |= Square.bit(cell);
                }
            }
            return open;
        }

        long sureCells() {
            long sure = 0;
            for (int cell = 0; cell < CELLS; cell++) {
                if (chanceAt(cell) == Kinds.TENTHS) {
                    sure |= Square.bit(cell);
                }
            }
            return sure;
        }

        long unsureCells() {
            long unsure = 0;
            for (int cell = 0; cell < CELLS; cell++) {
                if (chanceAt(cell) > 0 && chanceAt(cell) < Kinds.TENTHS) {
                    unsure |= Square.bit(cell);
                }
            }
            return unsure;
        }

        boolean bothStand() {
            return his != NONE && hers != NONE;
        }

        int farBetween(int a, int b) {
            return Square.apart(a, b) + Math.abs(heightAt(a) - heightAt(b)) / 2;
        }

        void layAt(int cell, int kind, int figure) {
            if (isCell(cell)) {
                kinds[cell] = kind;
                figures[cell] = figure;
            }
        }

        void place(int who, int cell) {
            if (who == 0) {
                his = cell;
            } else {
                hers = cell;
            }
        }

        /** The CELL a WAY goes to, NONE if it can not be gone. */
        int cellBy(int cell, int way) {
            int to = Square.cellTo(cell, way);
            return way == STAY || isOpen(to) ? to : NONE;
        }

        int cellByOrStay(int cell, int way) {
            int to = cellBy(cell, way);
            return to == NONE ? cell : to;
        }

        boolean goDay(int hisWay, int herWay) {
            int hisNext = cellBy(his, hisWay);
            int herNext = cellBy(hers, herWay);
            if (hisNext == NONE || herNext == NONE || day >= LAST_DAY) {
                return false;
            }
            day++;
            endDay(hisNext, herNext);
            return true;
        }

        void endDay(int hisNext, int herNext) {
            his = hisNext;
            hers = herNext;
            int far = farBetween(his, hers);
            // With NEAREST above FARTHEST a DAY can be both.
            if (far < nearest) {
                stopped++;
            }
            if (far > farthest) {
                pain++;
            }
        }
    }

    /** THE TEXT of a LAND in a ROW of bytes. */
    private static final class Text {
        static final int LETTER_DUE = -1;
        static final int END_DUE = 0;

        /** How many digits a STATEMENT's letter wants, LETTER_DUE if no STATEMENT begins with it. */
        static int digitsBehind(long letter) {
            switch ((int) letter) {
                case 'g': return 4;
                case 'h': return 2;
                case 's': return 2;
                case 'n': return 4;
                case 'w': return 1;
                case 'd': return 2;
                default: return LETTER_DUE;
            }
        }

        static int firstWrongByte(Shelf text) {
            int due = LETTER_DUE;
            for (int place = 0; place < text.size; place++) {
                long sign = text.numberAt(place);
                if (due == LETTER_DUE) {
                    due = digitsBehind(sign);
                    if (due == LETTER_DUE) {
                        return place;
                    }
                } else if (due == END_DUE) {
                    if (sign != ';') {
                        return place;
                    }
                    due = LETTER_DUE;
                } else {
                    if (sign < '0' || sign > '9') {
                        return place;
                    }
                    due--;
                }
            }
            return due == LETTER_DUE && text.size > 0 ? NONE : text.size;
        }

        static int statementsOf(Shelf text) {
            int statements = 0;
            for (int place = 0; place < text.size; place++) {
                if (text.numberAt(place) == ';') {
                    statements++;
                }
            }
            return statements;
        }

        static int firstNotDone(Shelf text, Land land) {
            for (int place = 0; place < text.size; place++) {
                boolean isLetter = place == 0 || text.numberAt(place - 1) == ';';
                if (isLetter && !isDone(text, place, land)) {
                    return place;
                }
            }
            return NONE;
        }

        static int digitAt(Shelf text, int place) {
            return (int) text.numberAt(place) - '0';
        }

        static int twoDigitsAt(Shelf text, int place) {
            return 10 * digitAt(text, place) + digitAt(text, place + 1);
        }

        static boolean isDone(Shelf text, int place, Land land) {
            switch ((int) text.numberAt(place)) {
                case 'g': return isLaid(text, place, land);
                case 'h': return isPlaced(0, twoDigitsAt(text, place + 1), land);
                case 's': return isPlaced(1, twoDigitsAt(text, place + 1), land);
                case 'n': return isBound(text, place, land);
                case 'w': return isWintered(digitAt(text, place + 1), land);
                case 'd': return land.goDay(digitAt(text, place + 1), digitAt(text, place + 2));
                default: return false;
            }
        }

        static boolean isLaid(Shelf text, int place, Land land) {
            int kind = digitAt(text, place + 1);
            int cell = twoDigitsAt(text, place + 3);
            if (!Kinds.isKind(kind) || !isCell(cell)) {
                return false;
            }
            land.layAt(cell, kind, digitAt(text, place + 2));
            return true;
        }

        static boolean isPlaced(int who, int cell, Land land) {
            if (!land.isOpen(cell)) {
                return false;
            }
            land.place(who, cell);
            return true;
        }

        static boolean isBound(Shelf text, int place, Land land) {
            int nearest = twoDigitsAt(text, place + 1);
            int farthest = twoDigitsAt(text, place + 3);
            if (!isDistance(nearest) || !isDistance(farthest)) {
                return false;
            }
            land.nearest = nearest;
            land.farthest = farthest;
            return true;
        }

        static boolean isWintered(int winter, Land land) {
            if (!isEither(winter)) {
                return false;
            }
            land.winter = winter;
            return true;
        }
    }

    /**
     * Both at once: for each CELL of HIS a set of HERS. What is worked out stays till the board is
     * laid anew; its rows are made once, as a run's calls together may not make many.
     */
    private static final class Board {
        final int[] heights = new int[CELLS];
        final int[] fars = new int[SQUARED];
        final long[] near = new long[CELLS];
        final long[] fit = new long[CELLS];
        final long[] come = new long[CELLS];
        final long[] fresh = new long[CELLS];
        final int[] days = new int[SQUARED];
        final long[] walks = new long[SQUARED];
        final long[] half = new long[SQUARED];

        void lay(Land land) {
            for (int cell = 0; cell < CELLS; cell++) {
                heights[cell] = land.heightAt(cell);
            }
            for (int his = 0; his < CELLS; his++) {
                for (int hers = 0; hers < CELLS; hers++) {
                    int unlike = Math.abs(heights[his] - heights[hers]);
                    fars[his * CELLS + hers] = Square.apart(his, hers) + unlike / 2;
                }
            }
            bound(land.nearest, land.farthest);
            admit(land.openCells());
        }

        /** Which two CELLS are not OFF, OPEN or not. */
        void bound(int nearest, int farthest) {
            for (int his = 0; his < CELLS; his++) {
                long cells = 0;
                for (int hers = 0; hers < CELLS; hers++) {
                    int far = fars[his * CELLS + hers];
                    if (far >= nearest && far <= farthest) {
                        cells |= 1L << hers;
                    }
                }
                near[his] = cells;
            }
        }

        /** Which of these are PAIRS, with these CELLS OPEN. */
        void admit(long open) {
            for (int his = 0; his < CELLS; his++) {
                fit[his] = Square.has(open, his) ? near[his] & open : 0;
            }
        }

        long nearOf(int his) {
            return isCell(his) ? near[his] : 0;
        }

        boolean isPair(int his, int hers) {
            return isCell(his) && Square.has(fit[his], hers);
        }

        int pairsInAll() {
            return bitsOf(fit);
        }

        static int bitsOf(long[] rows) {
            int bits = 0;
            for (int i = 0; i < rows.length; i++) {
                bits += Long.bitCount(rows[i]);
            }
            return bits;
        }

        int pairAt(int i) {
            int left = i;
            for (int his = 0; his < CELLS; his++) {
                for (int hers = 0; hers < CELLS; hers++) {
                    if (Square.has(fit[his], hers)) {
                        if (left == 0) {
                            return 100 * his + hers;
                        }
                        left--;
                    }
                }
            }
            return NONE;
        }

        long farsInAll() {
            long sum = 0;
            for (int his = 0; his < CELLS; his++) {
                for (int hers = 0; hers < CELLS; hers++) {
                    if (Square.has(fit[his], hers)) {
                        sum += fars[his * CELLS + hers];
                    }
                }
            }
            return sum;
        }

        void start(int his, int hers) {
            Arrays.fill(days, NONE);
            Arrays.fill(come, 0L);
            if (isPair(his, hers)) {
                come[his] = Square.bit(hers);
                days[his * CELLS + hers] = 0;
            }
        }

        /** One DAY more; false if no PAIR comes by it. */
        boolean spreadOn(int day) {
            for (int his = 0; his < CELLS; his++) {
                fresh[his] = fit[his] == 0 ? 0 : Square.spread(comeAround(his)) & fit[his] & ~come[his];
            }
            boolean any = false;
            for (int his = 0; his < CELLS; his++) {
                if (fresh[his] != 0) {
                    any = true;
                    come[his] |= fresh[his];
                    mark(his, fresh[his], day);
                }
            }
            return any;
        }

        long comeAround(int his) {
            long cells = 0;
            for (int way = 0; way < WAYS; way++) {
                int from = Square.cellTo(his, way);
                if (isCell(from)) {
                    cells |= come[from];
                }
            }
            return cells;
        }

        void mark(int his, long cells, int day) {
            for (int hers = 0; hers < CELLS; hers++) {
                if (isCell(his) && Square.has(cells, hers)) {
                    days[his * CELLS + hers] = day;
                }
            }
        }

        /** The fewest DAYS; goes from the end on back, so that DAYS tell how many are left. */
        int daysBetween(int his, int hers, int toHis, int toHers) {
            if (!isPair(his, hers) || !isPair(toHis, toHers)) {
                return NONE;
            }
            start(toHis, toHers);
            for (int day = 0; day < SQUARED; day++) {
                if (Square.has(come[his], hers)) {
                    return day;
                }
                if (!spreadOn(day + 1)) {
                    return NONE;
                }
            }
            return NONE;
        }

        int daysLeft(int his, int hers) {
            return isCell(his) && isCell(hers) ? days[his * CELLS + hers] : NONE;
        }

        /** The PAIR n DAYS on, of the way that daysBetween has just found, n not beyond its end. */
        int pairOnWay(int his, int hers, int n) {
            int pair = 100 * his + hers;
            for (int day = 0; day < n && day < SQUARED; day++) {
                pair = nextPair(pair / 100, pair % 100);
            }
            return pair;
        }

        int nextPair(int his, int hers) {
            int left = daysLeft(his, hers) - 1;
            int least = NONE;
            for (int hisWay = 0; hisWay < WAYS; hisWay++) {
                for (int herWay = 0; herWay < WAYS; herWay++) {
                    int hisNext = Square.cellTo(his, hisWay);
                    int herNext = Square.cellTo(hers, herWay);
                    int pair = 100 * hisNext + herNext;
                    if (left >= 0 && daysLeft(hisNext, herNext) == left && (least == NONE || pair < least)) {
                        least = pair;
                    }
                }
            }
            return least;
        }

        int pairsWithin(int his, int hers, int n) {
            start(his, hers);
            for (int day = 1; day <= n; day++) {
                if (!spreadOn(day)) {
                    return bitsOf(come);
                }
            }
            return bitsOf(come);
        }

        /** How many WAYS of n DAYS there are to each PAIR: HIS move first, then HERS, to add fewer. */
        void walk(int his, int hers, int n) {
            Arrays.fill(walks, 0L);
            if (isPair(his, hers)) {
                walks[his * CELLS + hers] = 1;
            }
            for (int day = 0; day < n; day++) {
                walkHim();
                walkHer();
            }
        }

        void walkHim() {
            Arrays.fill(half, 0L);
            for (int his = 0; his < CELLS; his++) {
                for (int way = 0; way < WAYS; way++) {
                    int from = Square.cellTo(his, way);
                    for (int hers = 0; hers < CELLS && isCell(from); hers++) {
                        half[his * CELLS + hers] += walks[from * CELLS + hers];
                    }
                }
            }
        }

        void walkHer() {
            Arrays.fill(walks, 0L);
            for (int hers = 0; hers < CELLS; hers++) {
                for (int way = 0; way < WAYS; way++) {
                    int from = Square.cellTo(hers, way);
                    for (int his = 0; his < CELLS && isCell(from); his++) {
                        if ((fit[his] >> hers & 1) == 1) {
                            walks[his * CELLS + hers] += half[his * CELLS + from];
                        }
                    }
                }
            }
        }

        long walksTo(int his, int hers) {
            return isCell(his) && isCell(hers) ? walks[his * CELLS + hers] : 0;
        }

        long walksInAll() {
            long sum = 0;
            for (int i = 0; i < SQUARED; i++) {
                sum += walks[i];
            }
            return sum;
        }
    }

    /** HIS CELLS, day by day, in a ROW. */
    private static final class Track {
        final long[] hers = new long[ELEMENTS];
        final long[] left = new long[CELLS];
        final long[] leftThen = new long[CELLS];

        static boolean isOfCells(Shelf row) {
            for (int place = 0; place < row.size; place++) {
                if (!isCell(row.numberAt(place))) {
                    return false;
                }
            }
            return row.size > 0;
        }

        static int firstWrongPlace(Shelf row, Land land) {
            long open = land.openCells();
            long come = Square.bit(land.his);
            for (int place = 0; place < row.size; place++) {
                long number = row.numberAt(place);
                if (place > 0) {
                    come |= Square.spread(come) & open;
                }
                if (number != row.leastNumber()) {
                    long told = isCell(number) ? Square.bit((int) number) : 0;
                    come &= place > 0 ? told & open : told;
                    if (come == 0) {
                        return place;
                    }
                }
            }
            return NONE;
        }

        static long fitOn(Shelf row, int place, Board board, long open) {
            return board.nearOf((int) row.numberAt(place)) & open;
        }

        /** Where SHE can be at the last one's end; HERS of all ends ahead are kept for bestDay. */
        long follow(Shelf row, Board board, long open) {
            long come = open;
            for (int place = 0; place < row.size && place < ELEMENTS; place++) {
                come = Square.spread(come) & fitOn(row, place, board, open);
                hers[place] = come;
            }
            return come;
        }

        /** From the last one back: what is left at the last, for each CELL told on a DAY. */
        int bestDay(Shelf row, Board board, long open) {
            int best = NONE;
            int fewest = CELLS + 1;
            int last = Math.min(row.size, ELEMENTS) - 1;
            for (int place = last; place >= 0; place--) {
                long fit = fitOn(row, place, board, open);
                for (int cell = 0; cell < CELLS; cell++) {
                    leftThen[cell] = place == last ? Square.bit(cell) : leftAround(cell);
                }
                for (int cell = 0; cell < CELLS; cell++) {
                    left[cell] = Square.has(fit, cell) ? leftThen[cell] : 0;
                }
                int worst = worstOf(hers[place]);
                if (worst <= fewest) {
                    fewest = worst;
                    best = place;
                }
            }
            return best;
        }

        long leftAround(int cell) {
            long cells = 0;
            for (int way = 0; way < WAYS; way++) {
                int to = Square.cellTo(cell, way);
                if (isCell(to)) {
                    cells |= left[to];
                }
            }
            return cells;
        }

        int worstOf(long told) {
            int worst = 0;
            for (int cell = 0; cell < CELLS; cell++) {
                if (Square.has(told, cell)) {
                    worst = Math.max(worst, Long.bitCount(left[cell]));
                }
            }
            return worst;
        }
    }

    /** A GAME of a DAY: FAR for each WAY of HIS and of HERS, NONE where one can not be gone. */
    private static final class Play {
        final int[] fars = new int[WAYS * WAYS];

        void lay(Land land) {
            for (int hisWay = 0; hisWay < WAYS; hisWay++) {
                for (int herWay = 0; herWay < WAYS; herWay++) {
                    int his = land.cellBy(land.his, hisWay);
                    int hers = land.cellBy(land.hers, herWay);
                    boolean can = his != NONE && hers != NONE;
                    fars[hisWay * WAYS + herWay] = can ? land.farBetween(his, hers) : NONE;
                }
            }
        }

        int farOf(int hisWay, int herWay) {
            return isWay(hisWay) && isWay(herWay) ? fars[hisWay * WAYS + herWay] : NONE;
        }

        int firstHeld() {
            for (int hisWay = 0; hisWay < WAYS; hisWay++) {
                for (int herWay = 0; herWay < WAYS; herWay++) {
                    if (farOf(hisWay, herWay) != NONE && isHeld(hisWay, herWay)) {
                        return 10 * hisWay + herWay;
                    }
                }
            }
            return NONE;
        }

        boolean isHeld(int hisWay, int herWay) {
            int far = farOf(hisWay, herWay);
            for (int other = 0; other < WAYS; other++) {
                int his = farOf(other, herWay);
                int hers = farOf(hisWay, other);
                if (his != NONE && his < far || hers != NONE && hers > far) {
                    return false;
                }
            }
            return true;
        }

        int leastSure() {
            int least = NONE;
            for (int hisWay = 0; hisWay < WAYS; hisWay++) {
                int worst = worstOf(hisWay);
                if (worst != NONE && (least == NONE || worst < least)) {
                    least = worst;
                }
            }
            return least;
        }

        int worstOf(int hisWay) {
            int worst = NONE;
            for (int herWay = 0; herWay < WAYS; herWay++) {
                worst = Math.max(worst, farOf(hisWay, herWay));
            }
            return worst;
        }
    }

    /** SNOW: each way in which the CELLS that are not sure may lie, with how likely it is. */
    private static final class Snow {
        static final int MOST_UNSURE = 8;

        static long likely(Land land, int from, int to) {
            long sure = land.sureCells();
            long unsure = land.unsureCells();
            int ways = 1 << Math.min(Long.bitCount(unsure), MOST_UNSURE);
            long sum = 0;
            for (int lies = 0; lies < ways; lies++) {
                long passable = sure | passableOf(unsure, lies);
                if (Square.stepsBetween(from, to, passable) != NONE) {
                    sum += weightOf(land, unsure, passable);
                }
            }
            return sum;
        }

        static long passableOf(long unsure, int lies) {
            long passable = 0;
            int place = 0;
            for (int cell = 0; cell < CELLS; cell++) {
                if (Square.has(unsure, cell)) {
                    if ((lies >> place & 1) == 1) {
                        passable |= Square.bit(cell);
                    }
                    place++;
                }
            }
            return passable;
        }

        static long weightOf(Land land, long unsure, long passable) {
            long weight = 1;
            for (int cell = 0; cell < CELLS; cell++) {
                if (Square.has(unsure, cell)) {
                    int chance = land.chanceAt(cell);
                    weight *= Square.has(passable, cell) ? chance : Kinds.TENTHS - chance;
                }
            }
            return weight;
        }
    }

    /** Fractions in least terms. */
    private static final class Fraction {
        static long partOf(long above, long below, int part) {
            long divisor = commonDivisor(above, below);
            if (above == 0 || divisor == 0) {
                return part == 0 ? 0 : 1;
            }
            return part == 0 ? above / divisor : below / divisor;
        }

        static long commonDivisor(long a, long b) {
            long greater = a;
            long less = b;
            // Euclid's way ends within some ninety rounds for any two longs.
            for (int round = 0; round < 100 && less != 0; round++) {
                long rest = greater % less;
                greater = less;
                less = rest;
            }
            return greater;
        }
    }

    /** What a SHELF holds; elements of every SORT lie as longs, already cut to their SORT. */
    private static final class Shelf {
        static final int NOTHING = 0;
        static final int GROUND = 1;
        static final int ROW = 2;

        static final int BYTES = 0;
        static final int INTS = 1;
        static final int LONGS = 2;

        static final long LEAST_BYTE = -128L;
        static final long LEAST_INT = -2147483648L;
        static final long LEAST_LONG = -9223372036854775808L;

        int holds = NOTHING;
        int kind = 0;
        int figure = 0;
        int sort = BYTES;
        int size = 0;
        final long[] numbers = new long[ELEMENTS];

        void takeGround(int newKind, int newFigure) {
            holds = GROUND;
            kind = newKind;
            figure = newFigure;
        }

        void takeRow(int newSort, int newSize) {
            holds = ROW;
            sort = newSort;
            size = newSize;
            Arrays.fill(numbers, 0L);
        }

        boolean hasPlace(int i) {
            return i >= 0 && i < size;
        }

        boolean hasPlaces(int i, int n) {
            return i >= 0 && n >= 0 && i <= size && n <= size - i;
        }

        long numberAt(int i) {
            return i >= 0 && i < size && i < numbers.length ? numbers[i] : 0;
        }

        void write(int i, int v) {
            if (i >= 0 && i < size && i < numbers.length) {
                numbers[i] = sort == BYTES ? (byte) v : v;
            }
        }

        long leastNumber() {
            switch (sort) {
                case BYTES: return LEAST_BYTE;
                case INTS: return LEAST_INT;
                default: return LEAST_LONG;
            }
        }
    }
}
