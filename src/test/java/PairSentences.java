import java.util.function.ToLongFunction;

/** STEPS, PAIRS, ISLANDS, MIDDLE, TO SEE, HINDERS, NEEDS, WITHIN, WAYS, ROUNDS; promises 9 to 20. */
final class PairSentences extends Sentences {
    /** CELLS each beside the next one alone: 13 of them. */
    private static final int[] SNAKE = {0, 1, 2, 3, 4, 5, 11, 17, 16, 15, 14, 13, 12};
    private static final int[] RING = {0, 1, 2, 8, 14, 13, 12, 6};

    @Override
    void all() {
        test("STEPS from a CELL to another one: the fewest by OPEN ones", this::fewestSteps);
        test("(both, too); -4. PAIRS", this::bothOpen);
        test("PAIRS: of two OPEN CELLS (HIS and HERS, one twice, too)", this::oneTwice);
        test("that are not OFF: how many", this::howManyPairs);
        test("the i-th (100 times HIS and HERS, rising)", this::rising);
        test("PAIRS: how many (i -1), the i-th; -4. -1 below -1.", this::pairsEnds);
        test("ISLANDS: into how many parts OPEN CELLS fall", this::islands);
        test("how many CELLS are in that of one", this::island);
        test("ISLANDS: how many CELLS with a CELL. -1, -3 it is not OPEN.", this::islandRefused);
        middle();
        toSee();
        way();
        hinders();
        needs();
        counts();
    }

    private void middle() {
        test("MIDDLE: of OPEN CELLS that from which the greatest STEPS to one that can be come to are fewest",
            this::fewestGreatest);
        test("of the largest ISLAND", this::largestIsland);
        test("(of several the one with the least CELL)", this::leastIsland);
        test("of several the least; -4; these STEPS.", this::leastMiddle);
        test("MIDDLE: the CELL (what 0; -4), STEPS (1; -4). -1.", this::noMiddle);
    }

    private void toSee() {
        test("TO SEE two CELLS (HIS, HERS): the fewest DAYS (0 ..)", this::fewestDays);
        test("with WAYS by which both stand there at once", this::atOnce);
        test("always a PAIR (now and then, too); -4.", this::alwaysPair);
        test("TO SEE: DAYS; -4. -1, -3.", this::seeRefused);
    }

    private void way() {
        test("The first such by PAIRS (DAY by DAY the least 100 times HIS and HERS)", this::leastByDays);
        test("the PAIR at the end of the n-th DAY (0: now", this::wayNow);
        test("beyond: -4)", this::wayBeyond);
        test("-4. -1 (n below 0), -3.", this::wayRefused);
    }

    private void hinders() {
        test("HINDERS: the CELL that is not OPEN, but were it OPEN", this::wereItOpen);
        test("(all else as it is), TO SEE them could be", this::allElse);
        test("with which it is soonest", this::soonest);
        test("of several the least; -4 none", this::leastHinders);
        test("or it can be as it is", this::canBeAsItIs);
        test("HINDERS; -4. -1, -3.", this::hindersRefused);
    }

    private void needs() {
        test("NEEDS: the least FARTHEST (0 .. 20) with which TO SEE can be; -4.", this::leastFarthest);
        test("NEEDS; -4. -1, -3.", this::needsRefused);
    }

    private void counts() {
        test("WITHIN n DAYS (0 .. 40): how many PAIRS they can come to", this::within);
        test("always a PAIR. WAYS", this::withinPairs);
        test("WITHIN. -1, -3.", this::withinRefused);
        test("WAYS of n DAYS (0 .. 10), always a PAIR: how many (unlike by some PAIR)", this::ways);
        test("WAYS. Refused as told: -1, -3.", this::waysRefused);
        test("ROUNDS: of these, how many end where they began.", this::rounds);
        test("ROUNDS. Refused as told: -1, -3.", this::roundsRefused);
    }

    // ---- STEPS, PAIRS

    private void fewestSteps() {
        NineMilesOff x = new NineMilesOff();
        due("over the whole square", x.steps(0, 35), 10);
        due("to itself", x.steps(20, 20), 0);
        Lands.lay(x, 5, 0, 2, 8, 14, 20, 26);
        due("round a RIVER", x.steps(0, 3), 13);
        due("and back", x.steps(3, 0), 13);
        Lands.lay(x, 6, 0, 8);
        due("over a BRIDGE", x.steps(0, 3), 5);
        x = Lands.only(0, 20, SNAKE);
        for (int i = 0; i < SNAKE.length; i++) {
            due("along", x.steps(0, SNAKE[i]), i);
        }
    }

    private void bothOpen() {
        NineMilesOff x = new NineMilesOff();
        Lands.lay(x, 5, 0, 2, 8, 14, 20, 26, 32);
        due("to another ISLAND", x.steps(1, 3), -4);
        due("to a closed one", x.steps(1, 2), -4);
        due("from a closed one", x.steps(2, 1), -4);
        due("from a closed one to itself", x.steps(2, 2), -4);
        due("from a closed one to another one", x.steps(2, 8), -4);
        x.set(2, 1);
        due("in WINTER", x.steps(1, 3), 2);
        due("no CELL", x.steps(-1, 0), -1);
        due("no CELL", x.steps(0, 36), -1);
    }

    private void oneTwice() {
        NineMilesOff x = Lands.plains(0, 0);
        due("each with itself", x.pairs(-1), 36);
        for (int i = 0; i < 36; i++) {
            due("pairs(" + i + ")", x.pairs(i), 101 * i);
        }
        x.set(0, 1);
        due("not with NEAREST 1", x.pairs(-1), 0);
        x.set(0, 0);
        Lands.lay(x, 5, 0, 0, 35);
        due("not closed ones", x.pairs(-1), 34);
        due("the first", x.pairs(0), 101);
        due("the last", x.pairs(33), 3434);
    }

    private void howManyPairs() {
        int[][] farthest = {{0, 15}, {5, 15}, {30, 15}, {35, 15}, {14, 11}, {21, 11}};
        for (int[] far : farthest) {
            NineMilesOff x = Lands.plains(far[1], far[1]);
            Lands.lay(x, 3, 9, far[0]);
            due("from a MOUNTAIN on " + far[0] + " to the CELL farthest off", x.pairs(-1), 2);
        }
        due("all", Lands.plains(0, 20).pairs(-1), 1296);
        due("those of FAR 1", Lands.plains(1, 1).pairs(-1), 120);
        due("those of FAR 10", Lands.plains(10, 10).pairs(-1), 4);
        due("none of FAR 11", Lands.plains(11, 20).pairs(-1), 0);
        NineMilesOff x = Lands.plains(0, 20);
        Lands.lay(x, 5, 0, 17);
        due("all but one CELL's", x.pairs(-1), 1225);
        due("no CELL is OPEN", Lands.only(0, 20).pairs(-1), 0);
    }

    private void rising() {
        NineMilesOff x = Lands.only(0, 20, 0, 6, 35);
        int[] pairs = {0, 6, 35, 600, 606, 635, 3500, 3506, 3535};
        for (int i = 0; i < pairs.length; i++) {
            due("pairs(" + i + ")", x.pairs(i), pairs[i]);
        }
        x = Lands.plains(10, 10);
        int[] corners = {35, 530, 3005, 3500};
        for (int i = 0; i < corners.length; i++) {
            due("corners, pairs(" + i + ")", x.pairs(i), corners[i]);
        }
    }

    private void pairsEnds() {
        NineMilesOff x = Lands.plains(0, 20);
        due("the first", x.pairs(0), 0);
        due("the last", x.pairs(1295), 3535);
        due("beyond", x.pairs(1296), -4);
        due("far beyond", x.pairs(Lands.MOST), -4);
        due("none at all", Lands.plains(11, 20).pairs(0), -4);
        for (int i : new int[] {-2, -3, Lands.LEAST}) {
            refused("pairs(" + i + ")", y -> y.pairs(i), -1);
        }
    }

    // ---- ISLANDS, MIDDLE

    private void islands() {
        due("all one", new NineMilesOff().islands(), 1);
        due("none", Lands.only(0, 20).islands(), 0);
        due("one CELL", Lands.only(0, 20, 35).islands(), 1);
        due("over a corner are two", Lands.only(0, 20, 0, 7).islands(), 2);
        due("a row's end and the next one's begin are two", Lands.only(0, 20, 5, 6).islands(), 2);
        due("the first and the last row are two", Lands.only(0, 20, 0, 30).islands(), 2);
        due("a chess board's", Lands.only(0, 20, 0, 2, 4, 7, 9, 11, 12, 14, 16, 19, 21, 23, 24, 26, 28, 31, 33, 35)
            .islands(), 18);
    }

    private void island() {
        NineMilesOff x = Lands.only(0, 20, 0, 1, 7, 8, 35, 34, 5);
        int[][] many = {{0, 4}, {1, 4}, {7, 4}, {8, 4}, {34, 2}, {35, 2}, {5, 1}};
        for (int[] one : many) {
            due("island(" + one[0] + ")", x.island(one[0]), one[1]);
        }
        due("all", new NineMilesOff().island(35), 36);
        due("along", Lands.only(0, 20, SNAKE).island(12), 13);
    }

    private void islandRefused() {
        refused("island(-1)", x -> x.island(-1), -1);
        refused("island(36)", x -> x.island(36), -1);
        refused("island(35)", x -> x.island(35), -3);
        NineMilesOff x = Lands.rich();
        x.set(2, 1);
        due("a MOUNTAIN in WINTER", x.island(20), -3);
        due("a RIVER in WINTER", x.island(35), 35);
    }

    private void middleOf(NineMilesOff x, int cell, int steps) {
        due("the CELL", x.middle(0), cell);
        due("STEPS", x.middle(1), steps);
    }

    private void fewestGreatest() {
        middleOf(Lands.only(0, 20, SNAKE), 11, 6);
        middleOf(Lands.only(0, 20, 0, 1, 2, 3, 4), 2, 2);
        middleOf(Lands.only(0, 20, 6, 7, 8, 1, 13), 7, 1);
        middleOf(new NineMilesOff(), 14, 6);
        middleOf(Lands.only(0, 20, 12, 13, 14, 15, 16, 17, 5, 11), 15, 4);
    }

    private void largestIsland() {
        middleOf(Lands.only(0, 20, 0, 1, 30, 31, 32), 31, 1);
        middleOf(Lands.only(0, 20, 0, 35, 34), 34, 1);
        middleOf(Lands.only(0, 20, 0, 1, 2, 35), 1, 1);
    }

    private void leastIsland() {
        middleOf(Lands.only(0, 20, 5, 11, 17, 6, 12, 18), 11, 1);
        middleOf(Lands.only(0, 20, 4, 5, 30, 31), 4, 1);
        middleOf(Lands.only(0, 20, 7, 9, 2, 33), 2, 0);
        middleOf(Lands.only(0, 20, 0, 1, 2, 3, 4, 30, 31, 32, 25, 24), 2, 2);
    }

    private void leastMiddle() {
        middleOf(Lands.only(0, 20, 0, 1), 0, 1);
        middleOf(Lands.only(0, 20, Lands.LINE), 2, 3);
        middleOf(Lands.only(0, 20, RING), 0, 4);
        middleOf(Lands.only(0, 20, 28, 29, 34, 35), 28, 2);
    }

    private void noMiddle() {
        middleOf(Lands.only(0, 20), -4, -4);
        middleOf(Lands.only(0, 20, 0), 0, 0);
        middleOf(Lands.only(0, 20, 35), 35, 0);
        for (int what : new int[] {-1, 2, Lands.LEAST, Lands.MOST}) {
            refused("middle(" + what + ")", x -> x.middle(what), -1);
        }
        NineMilesOff none = Lands.only(0, 20);
        due("-1 where there is none", none.middle(2), -1);
    }

    // ---- TO SEE

    private static NineMilesOff line(int nearest, int farthest, int his, int hers) {
        return Lands.put(Lands.only(nearest, farthest, Lands.LINE), his, hers);
    }

    private void fewestDays() {
        due("now", line(0, 20, 2, 4).see(2, 4), 0);
        due("one", line(0, 20, 2, 4).see(2, 3), 1);
        due("the longer of both", line(0, 20, 0, 4).see(5, 5), 5);
        due("the longest here", Lands.put(Lands.only(0, 20, SNAKE), 0, 12).see(12, 0), 12);
        due("over the whole square", Lands.put(Lands.plains(0, 20), 0, 35).see(35, 0), 10);
    }

    private void atOnce() {
        NineMilesOff x = line(0, 20, 0, 2);
        due("one of them waits", x.see(2, 2), 2);
        due("both go", x.see(2, 0), 2);
        due("they change places", line(1, 20, 2, 3).see(3, 2), 1);
        x = line(1, 1, 0, 1);
        due("as one", x.see(4, 5), 4);
        due("that FAR, but the other way round: they change places", x.see(1, 0), 1);
        x = line(2, 2, 0, 2);
        due("as one", x.see(3, 5), 3);
        due("they can not come by each other", x.see(2, 0), -4);
    }

    private void alwaysPair() {
        due("OFF now: too near", line(2, 20, 2, 3).see(1, 3), -4);
        due("OFF now: too far", line(0, 2, 0, 3).see(1, 3), -4);
        due("OFF now, and there", line(2, 20, 2, 3).see(2, 3), -4);
        due("OFF then: too near", line(2, 20, 1, 3).see(2, 3), -4);
        due("OFF then: too far", line(0, 2, 1, 3).see(0, 3), -4);
        due("just NEAREST and FARTHEST", line(2, 3, 0, 2).see(2, 5), 3);
        NineMilesOff x = Lands.put(Lands.only(2, 20, RING), 0, 14);
        due("round", x.see(14, 0), 4);
        x.set(0, 3);
        due("round, in turns", x.see(14, 0), 5);
        x.set(0, 4);
        due("not from corner to corner", x.see(14, 0), -4);
        x = line(0, 20, 2, 3);
        due("closed then, HIS", x.see(8, 3), -4);
        due("closed then, HERS", x.see(2, 9), -4);
        Lands.lay(x, 5, 0, 2);
        due("HIS is closed now", x.see(1, 3), -4);
        due("HIS is closed now and then", x.see(2, 3), -4);
        x = line(0, 20, 2, 3);
        Lands.lay(x, 5, 0, 3);
        due("HERS is closed now", x.see(2, 4), -4);
        x = line(0, 20, 0, 5);
        Lands.lay(x, 5, 0, 3);
        due("another ISLAND", x.see(0, 2), -4);
    }

    /** A call that wants two CELLS and both standing is refused. */
    private interface Asked {
        long of(NineMilesOff x, int his, int hers);
    }

    private void refusedOfBoth(String name, Asked asked) {
        for (int cell : new int[] {-1, 36, Lands.LEAST, Lands.MOST}) {
            refused(name + " of HIS " + cell, x -> asked.of(x, cell, 3), -1);
            refused(name + " of HERS " + cell, x -> asked.of(x, 12, cell), -1);
        }
        nobodyThere(name, x -> asked.of(x, 12, 3), -3);
    }

    private void nobodyThere(String name, ToLongFunction<NineMilesOff> asked, long want) {
        refused(Lands::nobody, name + " of nobody", asked, want);
        refused(Lands::heAlone, name + " without HER", asked, want);
        refused(Lands::sheAlone, name + " without HIM", asked, want);
    }

    private void seeRefused() {
        refusedOfBoth("see", (x, his, hers) -> x.see(his, hers));
    }

    // ---- the first way

    private void wayIs(NineMilesOff x, int his, int hers, int... pairs) {
        due("DAYS", x.see(his, hers), pairs.length - 1);
        for (int n = 0; n < pairs.length; n++) {
            due("way(" + his + ", " + hers + ", " + n + ")", x.way(his, hers, n), pairs[n]);
        }
        due("beyond", x.way(his, hers, pairs.length), -4);
    }

    private void leastByDays() {
        NineMilesOff square = Lands.put(Lands.only(0, 20, 0, 1, 6, 7), 0, 0);
        wayIs(square, 7, 0, 0, 100, 700);
        wayIs(square, 0, 7, 0, 1, 7);
        wayIs(square, 7, 7, 0, 101, 707);
        wayIs(Lands.put(Lands.only(0, 20, RING), 14, 14), 0, 14, 1414, 808, 202, 108, 14);
        wayIs(Lands.put(Lands.plains(0, 3), 14, 14), 2, 0, 1414, 808, 202, 101, 200);
        wayIs(Lands.put(Lands.plains(1, 20), 7, 8), 8, 7, 708, 807);
        wayIs(line(1, 2, 0, 1), 4, 5, 1, 102, 203, 304, 405);
        wayIs(line(1, 2, 4, 5), 0, 1, 405, 304, 203, 102, 1);
    }

    private void wayNow() {
        wayIs(line(0, 20, 2, 4), 2, 4, 204);
        due("now", line(0, 20, 0, 5).way(5, 0, 0), 5);
        due("now", line(0, 20, 5, 0).way(0, 5, 0), 500);
    }

    private void wayBeyond() {
        NineMilesOff x = line(0, 20, 2, 4);
        due("the end", x.way(2, 2, 2), 202);
        due("beyond", x.way(2, 2, 3), -4);
        due("far beyond", x.way(2, 2, Lands.MOST), -4);
        due("beyond now", x.way(2, 4, 1), -4);
        x.set(0, 1);
        due("none, now", x.way(2, 2, 0), -4);
        due("none, later", x.way(2, 2, 1), -4);
    }

    private void wayRefused() {
        refusedOfBoth("way", (x, his, hers) -> x.way(his, hers, 0));
        refused("way(12, 3, -1)", x -> x.way(12, 3, -1), -1);
        refused("way(12, 3, LEAST)", x -> x.way(12, 3, Lands.LEAST), -1);
    }

    // ---- HINDERS

    private void wereItOpen() {
        NineMilesOff x = Lands.put(Lands.only(0, 20, 0, 1, 3, 4), 0, 1);
        due("the one between", x.hinders(3, 4), 2);
        due("it is none of HIS or HERS", x.hinders(4, 1), 2);
        due("the told one itself", x.hinders(2, 1), 2);
        due("the land is as it was", x.count(8), 4);
        due("and it is closed", x.ground(2, 3), 0);
        Lands.lay(x, 5, 0, 0);
        due("HIS own is closed, as is the one between", x.hinders(3, 4), -4);
        due("HIS own is closed alone", x.hinders(1, 1), 0);
        due("HIS own is closed and told", x.hinders(0, 1), 0);
        x = Lands.put(new NineMilesOff(), 0, 3);
        Lands.lay(x, 5, 0, 3);
        due("HERS is closed alone", x.hinders(0, 4), 3);
        due("the least of two", Lands.put(Lands.only(0, 20, 34, 29), 34, 34).hinders(29, 34), 28);
        due("the last CELL", Lands.put(Lands.only(0, 20, 34), 34, 34).hinders(35, 34), 35);
        due("the first CELL", Lands.put(Lands.only(0, 20, 1), 1, 1).hinders(1, 0), 0);
    }

    private void allElse() {
        NineMilesOff x = Lands.put(Lands.only(1, 6, 0, 1), 0, 1);
        Lands.lay(x, 3, 9, 2);
        Lands.lay(x, 0, 0, 3);
        x.set(2, 1);
        Lands.lay(x, 3, 9, 4, 6, 7, 8, 9, 10);
        due("its HEIGHT stays", x.hinders(3, 1), 2);
        x.set(1, 5);
        due("its HEIGHT stays", x.hinders(3, 1), -4);
        x = Lands.put(Lands.only(0, 1, 0, 1, 3, 4), 0, 1);
        due("they stay so near", x.hinders(4, 3), 2);
        due("what is OFF stays OFF", x.hinders(4, 1), -4);
        x.set(0, 2);
        due("OFF now", x.hinders(3, 4), -4);
    }

    private void soonest() {
        NineMilesOff x = Lands.plains(0, 20);
        Lands.lay(x, 5, 0, 2, 8, 14, 20, 26, 32);
        due("by the last one", Lands.put(x, 31, 0).hinders(33, 0), 32);
        due("by the first one", Lands.put(x, 1, 35).hinders(3, 35), 2);
        due("one in the middle", Lands.put(x, 13, 35).hinders(16, 35), 14);
        due("by HER WAY", Lands.put(x, 0, 25).hinders(0, 27), 26);
    }

    private void leastHinders() {
        NineMilesOff x = Lands.plains(0, 20);
        Lands.lay(x, 5, 0, 2, 8, 14, 20, 26, 32);
        due("two are as soon", Lands.put(x, 7, 35).hinders(15, 35), 8);
        due("two are as soon", Lands.put(x, 13, 35).hinders(9, 35), 8);
        due("all are as soon", Lands.put(x, 1, 35).hinders(33, 35), 2);
        due("all are as soon, as SHE goes longer", Lands.put(x, 7, 0).hinders(9, 31), 2);
        Lands.lay(x, 5, 0, 3, 9, 15, 21, 27, 33);
        due("two lack", Lands.put(x, 7, 35).hinders(10, 35), -4);
        due("none is closed", Lands.put(Lands.plains(2, 2), 0, 2).hinders(0, 3), -4);
    }

    private void canBeAsItIs() {
        NineMilesOff x = Lands.plains(0, 20);
        Lands.lay(x, 5, 0, 2, 8, 14, 20, 26);
        due("round it", Lands.put(x, 1, 35).hinders(3, 35), -4);
        due("now", Lands.put(x, 1, 35).hinders(1, 35), -4);
        Lands.lay(x, 5, 0, 32);
        due("now it hinders", Lands.put(x, 1, 35).hinders(3, 35), 2);
        due("where one alone could be twice, they can not", Lands.put(Lands.only(0, 20, 0, 1, 3), 0, 1).hinders(1, 3), 2);
        due("where one alone can not be twice, they can", line(1, 1, 2, 3).hinders(4, 5), -4);
    }

    private void hindersRefused() {
        refusedOfBoth("hinders", (x, his, hers) -> x.hinders(his, hers));
    }

    // ---- NEEDS

    private void leastFarthest() {
        due("0", line(0, 20, 2, 2).needs(2, 2), 0);
        due("as far as they are now", line(0, 0, 0, 5).needs(2, 3), 5);
        due("as far as they are then", line(0, 0, 2, 3).needs(0, 5), 5);
        due("as near as NEAREST", line(3, 20, 0, 3).needs(2, 5), 3);
        due("FARTHEST does not matter", line(0, 9, 1, 1).needs(4, 4), 0);
        NineMilesOff x = Lands.put(Lands.only(0, 0, 0, 6, 12, 13, 14, 8, 2, 4), 0, 4);
        due("more by the way", x.needs(2, 4), 6);
        due("less by the way", x.needs(6, 4), 5);
        due("just stay", x.needs(0, 4), 4);
        x = Lands.put(Lands.plains(0, 20), 0, 35);
        Lands.lay(x, 3, 9, 35);
        due("the greatest", x.needs(0, 35), 15);
        due("FARTHEST stays", x.count(6), 20);
        due("too near now", line(2, 20, 2, 3).needs(1, 4), -4);
        due("too near then", line(2, 20, 1, 4).needs(2, 3), -4);
        due("they can not come by each other", line(2, 20, 0, 5).needs(5, 0), -4);
        due("another ISLAND", Lands.put(Lands.only(0, 20, 0, 1, 3), 0, 1).needs(3, 1), -4);
        due("closed then", line(0, 20, 2, 3).needs(8, 3), -4);
        due("NEAREST 20", line(20, 20, 0, 5).needs(0, 5), -4);
        x = line(0, 20, 2, 3);
        Lands.lay(x, 5, 0, 2);
        due("closed now", x.needs(1, 3), -4);
    }

    private void needsRefused() {
        refusedOfBoth("needs", (x, his, hers) -> x.needs(his, hers));
    }

    // ---- WITHIN, WAYS, ROUNDS

    private void within() {
        NineMilesOff x = line(0, 20, 0, 0);
        int[] many = {1, 4, 9, 16, 25, 36, 36};
        for (int n = 0; n < many.length; n++) {
            due("within(" + n + ")", x.within(n), many[n]);
        }
        due("within(40)", x.within(40), 36);
        x = Lands.put(Lands.only(0, 20, SNAKE), 0, 0);
        due("within(11)", x.within(11), 144);
        due("within(12)", x.within(12), 169);
        due("within(40)", x.within(40), 169);
        due("that of now is one of them", Lands.put(Lands.only(0, 20, 7), 7, 7).within(40), 1);
    }

    private void withinPairs() {
        NineMilesOff x = line(3, 3, 0, 3);
        int[] many = {1, 2, 3, 3};
        for (int n = 0; n < many.length; n++) {
            due("within(" + n + ")", x.within(n), many[n]);
        }
        due("not those behind each other", x.within(40), 3);
        x.set(0, 4);
        due("OFF now: too near", x.within(0), 0);
        due("OFF now: too near", x.within(40), 0);
        x = line(0, 2, 0, 3);
        due("OFF now: too far", x.within(40), 0);
        x = line(0, 20, 0, 3);
        Lands.lay(x, 5, 0, 0);
        due("HIS is closed now", x.within(40), 0);
        x = line(0, 20, 0, 3);
        Lands.lay(x, 5, 0, 3);
        due("HERS is closed now", x.within(0), 0);
    }

    private void withinRefused() {
        for (int n : new int[] {-1, 41, Lands.LEAST, Lands.MOST}) {
            refused("within(" + n + ")", x -> x.within(n), -1);
        }
        nobodyThere("within(3)", x -> x.within(3), -3);
    }

    private static NineMilesOff two(int nearest) {
        return Lands.put(Lands.only(nearest, 20, 0, 1), 0, 1);
    }

    private void ways() {
        NineMilesOff once = two(1);
        for (int n : new int[] {3, 3, 10, 0, 2, 10, 1}) {
            due("asked behind another one, ways(" + n + ")", once.ways(n), 1L << n);
        }
        for (int n = 0; n <= 10; n++) {
            due("stay or change, ways(" + n + ")", two(1).ways(n), 1L << n);
            due("each as it will, ways(" + n + ")", two(0).ways(n), 1L << 2 * n);
            due("always the same, ways(" + n + ")", Lands.put(Lands.only(0, 20, 7), 7, 7).ways(n), 1);
        }
        due("5 by 5", Lands.put(Lands.plains(0, 20), 14, 21).ways(1), 25);
        due("3 by 4", Lands.put(Lands.plains(0, 20), 0, 3).ways(1), 12);
        due("of the whole square, as many times itself", Lands.put(Lands.plains(0, 20), 14, 14).ways(10), 39470974803649L);
        NineMilesOff x = two(2);
        due("OFF now", x.ways(0), 0);
        due("OFF now", x.ways(10), 0);
        x = two(0);
        Lands.lay(x, 5, 0, 0);
        due("HIS is closed now", x.ways(0), 0);
        due("HIS is closed now", x.ways(3), 0);
    }

    private void waysRefused() {
        for (int n : new int[] {-1, 11, Lands.LEAST, Lands.MOST}) {
            refused("ways(" + n + ")", x -> x.ways(n), -1000000001L);
        }
        nobodyThere("ways(3)", x -> x.ways(3), -1000000003L);
    }

    private void rounds() {
        due("of no DAY", two(1).rounds(0), 1);
        for (int n = 1; n <= 10; n++) {
            due("half of them, rounds(" + n + ")", two(1).rounds(n), 1L << n - 1);
            due("a quarter of them, rounds(" + n + ")", two(0).rounds(n), 1L << 2 * n - 2);
        }
        NineMilesOff once = two(1);
        for (int n : new int[] {3, 3, 10, 2, 10, 1}) {
            due("asked behind another one, rounds(" + n + ")", once.rounds(n), 1L << n - 1);
        }
        due("stay", line(5, 5, 0, 5).rounds(10), 1);
        due("OFF now", two(2).rounds(0), 0);
        due("OFF now", two(2).rounds(10), 0);
        due("HIS and HERS are not one another's", Lands.put(Lands.only(0, 20, 0, 1, 2), 0, 1).rounds(2), 6);
    }

    private void roundsRefused() {
        for (int n : new int[] {-1, 11, Lands.LEAST, Lands.MOST}) {
            refused("rounds(" + n + ")", x -> x.rounds(n), -1000000001L);
        }
        nobodyThere("rounds(3)", x -> x.rounds(3), -1000000003L);
    }
}
