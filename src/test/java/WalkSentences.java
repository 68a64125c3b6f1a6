import java.util.Arrays;

/** JUDGED, SEEDS; promises 29 and 30. */
final class WalkSentences extends Sentences {
    private static final int BYTE = -128;
    private static final int[] RING = {0, 1, 2, 8, 14, 13, 12, 6};

    @Override
    void all() {
        test("JUDGED of a ROW of CELLS: HIS, day by day from now (place 0: where HE is now)", this::placeNought);
        test("the first that is not beside the one ahead nor the same", this::notBeside);
        test("or is not OPEN", this::notOpen);
        test("(place 0: that is not HIS)", this::notHis);
        test("(the least number of the SORT is skipped", this::leastNumber);
        test("any CELL that can be gone to then", this::anyThatCanBeGoneTo);
        test("two skipped ones behind each other may go two STEPS, and so on); -4.", this::skippedBehindEachOther);
        test("JUDGED by the ROW in SHELF d; -4. -1, -3 HE is nowhere, -11, -12 (no ROW).", this::judgeRefused);
        test("SEEDS with a seed z: n walks (1 .. 20) of 20 DAYS from now", this::walksFromNow);
        test("each DAY HE, then SHE draws a WAY (a DRAW below 5", this::heThenShe);
        test("one that can not be gone: stays)", this::stays);
        test("how many DAYS it STOPPED, how many of PAIN", this::stoppedAndPain);
        test("z becomes z times 1103515245 plus 12345 (an int)", this::wraps);
        test("(z without its sign's bit over 65536, cut) modulo n.", this::withoutSign);
        test("SEEDS: STOPPED (what 0), PAIN (1). -1, -3.", this::seedsRefused);
    }

    // ---- JUDGED

    private void judged(NineMilesOff x, int due, int... his) {
        for (int sort = 0; sort < 3; sort++) {
            judgedOf(x, sort, due, his);
        }
    }

    private void judgedOf(NineMilesOff x, int sort, int due, int... his) {
        Lands.numbers(x, 0, sort, his);
        due("of SORT " + sort + " " + Arrays.toString(his), x.judge(0), due);
    }

    private static NineMilesOff he(NineMilesOff x, int cell) {
        x.stands(0, cell);
        return x;
    }

    private void placeNought() {
        judged(he(Lands.plains(0, 20), 7), -4, 7);
        judged(he(Lands.plains(0, 20), 0), -4, 0);
        judged(he(Lands.plains(0, 20), 35), -4, 35);
        judged(he(Lands.plains(0, 20), 7), -4);
        NineMilesOff x = he(Lands.plains(0, 20), 7);
        Lands.lay(x, 5, 0, 7);
        judged(x, -4, 7);
        judged(x, -4, 7, 8);
        x = Lands.put(Lands.plains(0, 20), 7, 8);
        judged(x, 0, 8);
        x.go(1, 0);
        judged(x, 0, 7);
        judged(x, -4, 1);
    }

    private void notBeside() {
        NineMilesOff x = he(Lands.plains(0, 20), 7);
        judged(x, -4, 7, 7, 7);
        judged(x, -4, 7, 1, 0, 6, 12, 13, 14, 8, 7);
        judged(x, 1, 7, 0);
        judged(x, 1, 7, 14);
        judged(x, 1, 7, 9);
        judged(x, 2, 7, 6, 5);
        judged(x, 2, 7, 6, 11);
        judged(x, 3, 7, 6, 0, 30);
        judged(x, 1, 7, 9, 35, 0);
        judged(x, 2, 7, 8, 10, 9);
        int[] long100 = new int[100];
        Arrays.fill(long100, 7);
        judged(x, -4, long100);
        long100[99] = 9;
        judged(x, 99, long100);
    }

    private void notOpen() {
        NineMilesOff x = he(Lands.plains(0, 20), 7);
        Lands.lay(x, 5, 0, 8);
        Lands.lay(x, 3, 0, 6);
        judged(x, 1, 7, 8);
        judged(x, 1, 7, 8, 8);
        judged(x, 3, 7, 1, 2, 8);
        judged(x, -4, 7, 6, 7);
        x.set(2, 1);
        judged(x, -4, 7, 8, 7);
        judged(x, 1, 7, 6, 7);
        x.set(2, 0);
        for (int cell : new int[] {-1, 36, 127, -127}) {
            judged(x, 1, 7, cell);
            judged(x, 2, 7, 13, cell);
        }
        Lands.lay(x, 5, 0, 7);
        judged(x, 1, 7, 7);
        judged(x, -4, 7, 13);
        judged(x, 2, 7, 13, 7);
    }

    private void notHis() {
        NineMilesOff x = he(Lands.plains(0, 20), 7);
        for (int cell : new int[] {0, 1, 6, 8, 13, 35, -1, 36, 127}) {
            judged(x, 0, cell);
            judged(x, 0, cell, 7);
        }
        x.stands(1, 8);
        judged(x, 0, 8);
        Lands.lay(x, 5, 0, 8, 7);
        judged(x, 0, 8);
        judged(x, -4, 7);
    }

    private void leastNumber() {
        NineMilesOff x = he(Lands.plains(0, 20), 7);
        judgedOf(x, 0, -4, 7, BYTE, 7);
        judgedOf(x, 0, -4, 7, 128, 7);
        judgedOf(x, 0, 1, 7, BYTE + 1, 7);
        judgedOf(x, 0, 1, 7, 127, 7);
        judgedOf(x, 0, 1, 7, Lands.LEAST + 64, 7);
        judgedOf(x, 0, -4, 7, Lands.LEAST + 128, 7);
        judgedOf(x, 1, -4, 7, Lands.LEAST, 7);
        judgedOf(x, 1, 1, 7, Lands.LEAST + 1, 7);
        judgedOf(x, 1, 1, 7, Lands.MOST, 7);
        judgedOf(x, 1, 1, 7, BYTE, 7);
        judgedOf(x, 2, 1, 7, Lands.LEAST, 7);
        judgedOf(x, 2, 1, 7, BYTE, 7);
    }

    /** By bytes and by ints, each with its own least number for BYTE. */
    private void skips(NineMilesOff x, int due, int... his) {
        judgedOf(x, 0, due, his);
        int[] ints = his.clone();
        for (int i = 0; i < ints.length; i++) {
            ints[i] = his[i] == BYTE ? Lands.LEAST : his[i];
        }
        judgedOf(x, 1, due, ints);
    }

    private void anyThatCanBeGoneTo() {
        NineMilesOff x = he(Lands.only(0, 20, 0, 1, 2, 8, 14, 35), 0);
        skips(x, -4, 0, BYTE);
        skips(x, -4, 0, BYTE, 0);
        skips(x, -4, 0, BYTE, 1);
        skips(x, -4, 0, BYTE, 2);
        skips(x, 2, 0, BYTE, 8);
        skips(x, 2, 0, BYTE, 35);
        skips(x, 2, 0, BYTE, 6);
        skips(x, 2, 0, BYTE, 12);
        skips(x, 2, 0, BYTE, 36);
        skips(x, -4, 0, BYTE, 2, BYTE, 14);
        skips(x, 4, 0, BYTE, 1, BYTE, 14);
        skips(x, 3, 0, BYTE, 1, 8);
        skips(x, -4, BYTE);
        skips(x, -4, BYTE, 1);
        skips(x, 1, BYTE, 2);
        Lands.lay(x, 5, 0, 0);
        skips(x, -4, 0, BYTE, 2);
        skips(x, -4, 0, BYTE, 1);
        skips(x, 2, 0, BYTE, 0);
        x = he(Lands.only(0, 20, 0, 2), 0);
        skips(x, 2, 0, BYTE, 2);
        skips(x, -4, 0, BYTE, 0);
    }

    private void skippedBehindEachOther() {
        NineMilesOff x = he(Lands.only(0, 20, 0, 1, 2, 8, 14, 13, 12), 0);
        int[] along = {0, 1, 2, 8, 14, 13, 12};
        for (int skipped = 0; skipped <= 6; skipped++) {
            for (int steps = 0; steps < along.length; steps++) {
                int[] his = new int[skipped + 2];
                Arrays.fill(his, BYTE);
                his[0] = 0;
                his[skipped + 1] = along[steps];
                skips(x, steps <= skipped + 1 ? -4 : skipped + 1, his);
            }
        }
        int[] all = new int[100];
        Arrays.fill(all, BYTE);
        skips(x, -4, all);
        all[99] = 12;
        skips(x, -4, all);
        all[99] = 6;
        skips(x, 99, all);
        x = he(Lands.only(0, 20, RING), 0);
        skips(x, -4, 0, BYTE, BYTE, 13);
        skips(x, 3, 0, BYTE, BYTE, 14);
        skips(x, 2, BYTE, BYTE, 14);
    }

    private void judgeRefused() {
        for (int d : new int[] {-1, 8, Lands.LEAST, Lands.MOST}) {
            refused("judge(" + d + ")", x -> x.judge(d), -1);
        }
        refused(Lands::nobody, "judge(1) of nobody", x -> x.judge(1), -3);
        refused(Lands::sheAlone, "judge(1) without HIM", x -> x.judge(1), -3);
        refused("judge(4)", x -> x.judge(4), -11);
        refused("judge(3)", x -> x.judge(3), -12);
        NineMilesOff x = Lands.heAlone();
        Lands.numbers(x, 0, 0, 12, 13);
        due("without HER", x.judge(0), -4);
        due("a ROW of none", x.judge(5), -4);
        due("a number that is no CELL", x.judge(6), 1);
        judged(he(Lands.lastDay(Lands.put(Lands.plains(0, 20), 7, 7)), 7), -4, 7, 8);
    }

    // ---- SEEDS

    /** A land for walks, and the same walks told by other means. */
    private static final class Walks {
        final boolean[] open = new boolean[36];
        int his;
        int hers;
        int nearest;
        int farthest;
        int seed;
        int stopped;
        int pain;

        Walks(int nearest, int farthest, int his, int hers, int... closed) {
            this.nearest = nearest;
            this.farthest = farthest;
            this.his = his;
            this.hers = hers;
            Arrays.fill(open, true);
            for (int cell : closed) {
                open[cell] = false;
            }
        }

        NineMilesOff land() {
            NineMilesOff x = Lands.put(Lands.plains(nearest, farthest), his, hers);
            x.keep(0, 1, 5, 0);
            for (int cell = 0; cell < 36; cell++) {
                if (!open[cell]) {
                    x.lays(0, cell);
                }
            }
            return x;
        }

        /** The seed as a number without a sign, so that it goes beyond an int and is cut there. */
        int drawn() {
            long z = (seed & 0xffffffffL) * 1103515245L + 12345L;
            seed = (int) (z & 0xffffffffL);
            return (int) ((z & 0x7fffffffL) >> 16) % 5;
        }

        int gone(int cell, int way) {
            int[] rows = {0, -1, 0, 0, 1};
            int[] columns = {0, 0, -1, 1, 0};
            int row = cell / 6 + rows[way];
            int column = cell % 6 + columns[way];
            boolean inside = row >= 0 && row < 6 && column >= 0 && column < 6;
            return inside && open[6 * row + column] ? 6 * row + column : cell;
        }

        void walk(int n, int z) {
            seed = z;
            stopped = 0;
            pain = 0;
            for (int walk = 0; walk < n; walk++) {
                int a = his;
                int b = hers;
                for (int day = 0; day < 20; day++) {
                    a = gone(a, drawn());
                    b = gone(b, drawn());
                    stopped += Lands.apart(a, b) < nearest ? 1 : 0;
                    pain += Lands.apart(a, b) > farthest ? 1 : 0;
                }
            }
        }
    }

    private void seedsAre(Walks walks, int n, int z) {
        walks.walk(n, z);
        NineMilesOff x = walks.land();
        due("STOPPED of " + n + " walks by " + z, x.seeds(n, z, 0), walks.stopped);
        due("PAIN of " + n + " walks by " + z, x.seeds(n, z, 1), walks.pain);
    }

    private void walksFromNow() {
        Walks walks = new Walks(3, 4, 14, 21);
        for (int n = 1; n <= 20; n++) {
            seedsAre(walks, n, 7);
        }
        NineMilesOff x = Lands.put(Lands.only(1, 20, 7), 7, 7);
        due("one walk of 20 DAYS", x.seeds(1, 3, 0), 20);
        due("20 walks", x.seeds(20, 3, 0), 400);
        for (int n : new int[] {0, -1, 21, Lands.LEAST, Lands.MOST}) {
            refused("seeds(" + n + ", 3, 0)", y -> y.seeds(n, 3, 0), -1);
        }
        x = Lands.lastDay(Lands.put(Lands.only(1, 20, 7), 7, 7));
        due("on the last DAY, too", x.seeds(1, 3, 0), 20);
    }

    private void heThenShe() {
        for (int z = 0; z < 20; z++) {
            seedsAre(new Walks(2, 3, 0, 8, 1, 6), 1, z);
            seedsAre(new Walks(2, 3, 8, 0, 1, 6), 1, z);
            seedsAre(new Walks(1, 1, 14, 15), 1, z);
        }
    }

    private void stays() {
        for (int z = 0; z < 10; z++) {
            seedsAre(new Walks(1, 2, 0, 0), 2, z);
            seedsAre(new Walks(1, 2, 35, 34), 2, z);
            seedsAre(new Walks(1, 2, 5, 30, 4, 24), 2, z);
            seedsAre(new Walks(2, 2, 14, 14, 8, 20), 2, z);
            seedsAre(new Walks(2, 2, 14, 14, 14, 8), 2, z);
        }
    }

    private void stoppedAndPain() {
        NineMilesOff x = Lands.put(Lands.only(2, 20, 7, 9), 7, 9);
        due("just NEAREST", x.seeds(20, 1, 0), 0);
        x.set(0, 3);
        due("below NEAREST", x.seeds(20, 1, 0), 400);
        x.set(1, 2);
        due("just FARTHEST", x.seeds(20, 1, 1), 0);
        x.set(1, 1);
        due("above FARTHEST", x.seeds(20, 1, 1), 400);
        due("both at once", x.seeds(20, 1, 0), 400);
        due("DAY stays", x.count(2), 0);
        x = Lands.put(Lands.plains(20, 0), 0, 35);
        x.go(0, 0);
        due("from 0 on, whatever was counted", x.seeds(1, 1, 0), 20);
        due("from 0 on, whatever was counted", x.seeds(1, 1, 1), 20);
        onlyAsks("seeds(20, 5, 0)", y -> y.seeds(20, 5, 0));
        onlyAsks("seeds(20, 5, 1)", y -> y.seeds(20, 5, 1));
    }

    private void wraps() {
        int[] seeds = {0, 1, -1, 2, Lands.LEAST, Lands.MOST, Lands.LEAST + 1, Lands.MOST - 1, 65536, -65536, 123456789,
            -987654321};
        for (int z : seeds) {
            seedsAre(new Walks(3, 4, 14, 21), 3, z);
        }
    }

    private void withoutSign() {
        for (int z = -40; z < 40; z++) {
            seedsAre(new Walks(3, 3, 14, 16), 2, z * 53687091);
        }
    }

    private void seedsRefused() {
        for (int what : new int[] {-1, 2, Lands.LEAST, Lands.MOST}) {
            refused("seeds(1, 0, " + what + ")", x -> x.seeds(1, 0, what), -1);
        }
        refused(Lands::nobody, "seeds of nobody", x -> x.seeds(1, 0, 0), -3);
        refused(Lands::heAlone, "seeds without HER", x -> x.seeds(20, 0, 1), -3);
        refused(Lands::sheAlone, "seeds without HIM", x -> x.seeds(1, 0, 1), -3);
        for (int z : new int[] {Lands.LEAST, -1, 0, Lands.MOST}) {
            due("any z, " + z, Lands.rich().seeds(1, z, 0) >= 0 ? 1 : 0, 1);
        }
    }
}
