import java.util.function.IntFunction;
import java.util.function.ToLongFunction;

/** The land: CELLS, GROUNDS, HE and SHE, DAYS; promises 1, 3 to 8. */
final class LandSentences extends Sentences {
    @Override
    void all() {
        test("CELLS 0 .. 35", this::cells);
        test("row CELL by 6, column CELL modulo 6", this::rowsAndColumns);
        test("beside one: up, left, right, down in the square", this::beside);
        test("Each has a GROUND of a KIND with a FIGURE (0 .. 9)", this::figures);
        test("(PLAIN, 0 at first)", this::plainAtFirst);
        test("KINDS: 0 PLAIN; 1 ROAD under PLAIN; 2 HILL under PLAIN; 3 MOUNTAIN under HILL; 4 PASS under MOUNTAIN; "
            + "5 RIVER under PLAIN; 6 BRIDGE under RIVER; 7 WOOD under PLAIN.", this::kinds);
        test("WINTER (1 or 0; 0 at first).", this::winter);
        test("NEAREST (0 .. 20; 3 at first)", () -> distance(0, 3));
        test("FARTHEST (0 .. 20; 6 at first)", () -> distance(1, 6));
        grounds();
        distances();
        days();
        promises();
    }

    private void grounds() {
        test("HEIGHT: PLAIN 0", () -> grounds(0, 2, 0, 0, 0, 0, 0, 0, 0, 0, 0, 0));
        test("HILL 2 more", () -> grounds(2, 2, 2, 2, 2, 2, 2, 2, 2, 2, 2, 2));
        test("MOUNTAIN a HILL's and FIGURE", () -> grounds(3, 2, 2, 3, 4, 5, 6, 7, 8, 9, 10, 11));
        test("PASS half of a MOUNTAIN's, cut", () -> grounds(4, 2, 1, 1, 2, 2, 3, 3, 4, 4, 5, 5));
        test("BRIDGE 1 more", () -> grounds(6, 2, 1, 1, 1, 1, 1, 1, 1, 1, 1, 1));
        test("others as what they are under. OPEN", this::othersLie);
        test("OPEN (1, 0): PLAIN 1", () -> opens(0, 10, 10));
        test("MOUNTAIN a HILL's, not in WINTER", () -> opens(3, 10, 0));
        test("PASS in WINTER, too, if FIGURE is 4 or less, else as a MOUNTAIN", () -> opens(4, 10, 5));
        test("RIVER in WINTER alone", () -> opens(5, 0, 10));
        test("BRIDGE a PLAIN's", () -> opens(6, 10, 10));
        test("others as what they are under. CHANCE", this::othersOpen);
        test("CHANCE (tenths, that it is passable in a snow): PLAIN 10",
            () -> grounds(0, 4, 10, 10, 10, 10, 10, 10, 10, 10, 10, 10));
        test("HILL a PLAIN's less 1", () -> grounds(2, 4, 9, 9, 9, 9, 9, 9, 9, 9, 9, 9));
        test("MOUNTAIN a HILL's less 4", () -> grounds(3, 4, 5, 5, 5, 5, 5, 5, 5, 5, 5, 5));
        test("PASS a MOUNTAIN's and a third of FIGURE, cut", () -> grounds(4, 4, 5, 5, 5, 6, 6, 6, 7, 7, 7, 8));
        test("RIVER 0", () -> grounds(5, 4, 0, 0, 0, 0, 0, 0, 0, 0, 0, 0));
        test("BRIDGE 8 more than a RIVER's", () -> grounds(6, 4, 8, 8, 8, 8, 8, 8, 8, 8, 8, 8));
        test("WOOD a PLAIN's less FIGURE", () -> grounds(7, 4, 10, 9, 8, 7, 6, 5, 4, 3, 2, 1));
        test("ROAD as PLAIN", () -> grounds(1, 4, 10, 10, 10, 10, 10, 10, 10, 10, 10, 10));
        test("of a KIND (or SORT) \"n more\", \"n less\" without more words is: than what the one it is under has",
            this::moreThanWhatItIsUnder);
    }

    private void distances() {
        test("FAR of two CELLS: rows and columns that they are apart", this::farOfPlains);
        test("half of how unlike HEIGHTS are, cut", this::farOfHeights);
        test("`int far(int a, int b)`: FAR. -1.", this::farRefused);
        test("They are OFF, if FAR of theirs is below NEAREST", this::notBelowNearest);
        test("or above FARTHEST", this::notAboveFarthest);
        test("HE and SHE each stand on a CELL that is OPEN, or nowhere (at first)", this::nowhereAtFirst);
    }

    private void days() {
        test("Each DAY (0 at first; 0 .. 999)", this::firstAndLastDay);
        test("each goes a WAY: 0 stays (it always can)", this::stays);
        test("1 up", () -> way(1, -6, 0, 1, 2, 3, 4, 5));
        test("2 left", () -> way(2, -1, 0, 6, 12, 18, 24, 30));
        test("3 right", () -> way(3, 1, 5, 11, 17, 23, 29, 35));
        test("4 down", () -> way(4, 6, 30, 31, 32, 33, 34, 35));
        test("onto a CELL that is OPEN", this::ontoOpenOnes);
        test("then, if FAR is below NEAREST, it STOPPED on this DAY", this::stopped);
        test("if above FARTHEST, it is a DAY of PAIN", this::pain);
        test("(both counted from 0 on)", this::countedFromNothing);
        test("A CELL that is no more OPEN is left alone: who stands there stays or goes.", this::closedUnderThem);
    }

    private void promises() {
        test("`NineMilesOff()`: All PLAINS, nobody.", this::newObject);
        test("Of a CELL: KIND (what 0), FIGURE (1), HEIGHT (2), OPEN (3), CHANCE (4). -1.", this::groundTold);
        test("The GROUND on SHELF d comes to a CELL: the KIND there was. -1, -11, -12 (a ROW).", this::lays);
        test("HE (who 0), SHE (1) stands on a CELL: where it was; -4.", this::whereItWas);
        test("-1, -3 not OPEN.", this::notOpen);
        test("NEAREST (what 0), FARTHEST (1), WINTER (2) becomes v: what it was. -1.", this::set);
        test("A DAY: FAR then.", this::farThen);
        test("-1, -3 (DAY is 999; a WAY that can not be gone, too).", this::goRefused);
    }

    // ---- CELLS

    private void taken(String name, IntFunction<ToLongFunction<NineMilesOff>> call, long no) {
        for (int cell : new int[] {0, 35}) {
            NineMilesOff x = Lands.put(Lands.plains(0, 20), 14, 14);
            x.keep(0, 1, 0, 0);
            long got = answer(x, call.apply(cell));
            due(name + " refuses " + cell, got == no || got < -999 ? 1 : 0, 0);
        }
        for (int cell : new int[] {-1, 36, Lands.LEAST, Lands.MOST}) {
            NineMilesOff x = Lands.put(Lands.plains(0, 20), 14, 14);
            x.keep(0, 1, 0, 0);
            due(name + " with " + cell, answer(x, call.apply(cell)), no);
        }
    }

    private void cells() {
        taken("ground", c -> x -> x.ground(c, 3), -1);
        taken("lays", c -> x -> x.lays(0, c), -1);
        taken("stands of his", c -> x -> x.stands(0, c), -1);
        taken("stands of hers", c -> x -> x.stands(1, c), -1);
        taken("far from", c -> x -> x.far(c, 7), -1);
        taken("far to", c -> x -> x.far(7, c), -1);
        taken("steps from", c -> x -> x.steps(c, 7), -1);
        taken("steps to", c -> x -> x.steps(7, c), -1);
        taken("island", c -> x -> x.island(c), -1);
        taken("see of his", c -> x -> x.see(c, 7), -1);
        taken("see of hers", c -> x -> x.see(7, c), -1);
        taken("way of his", c -> x -> x.way(c, 7, 0), -1);
        taken("way of hers", c -> x -> x.way(7, c, 0), -1);
        taken("hinders of his", c -> x -> x.hinders(c, 7), -1);
        taken("hinders of hers", c -> x -> x.hinders(7, c), -1);
        taken("needs of his", c -> x -> x.needs(c, 7), -1);
        taken("needs of hers", c -> x -> x.needs(7, c), -1);
        taken("late", c -> x -> x.late(c, 0), -1);
        taken("snow from", c -> x -> x.snow(c, 7, 0), -1000000001L);
        taken("snow to", c -> x -> x.snow(7, c, 0), -1000000001L);
    }

    private void rowsAndColumns() {
        NineMilesOff x = new NineMilesOff();
        due("far(0, 5), one row", x.far(0, 5), 5);
        due("far(0, 30), one column", x.far(0, 30), 5);
        due("far(5, 6), a row's end and the next one's begin", x.far(5, 6), 6);
        due("far(29, 30)", x.far(29, 30), 6);
        due("far(0, 35), corners", x.far(0, 35), 10);
        due("far(30, 5), corners", x.far(30, 5), 10);
        due("far(7, 28)", x.far(7, 28), 6);
    }

    private void besideAre(int cell, int... beside) {
        NineMilesOff x = new NineMilesOff();
        for (int to = 0; to < 36; to++) {
            boolean is = false;
            for (int one : beside) {
                is |= one == to;
            }
            due("steps(" + cell + ", " + to + ") is 1", x.steps(cell, to) == 1 ? 1 : 0, is ? 1 : 0);
        }
    }

    private void beside() {
        besideAre(0, 1, 6);
        besideAre(5, 4, 11);
        besideAre(30, 24, 31);
        besideAre(35, 29, 34);
        besideAre(3, 2, 4, 9);
        besideAre(32, 31, 33, 26);
        besideAre(6, 0, 7, 12);
        besideAre(11, 5, 10, 17);
        besideAre(14, 8, 13, 15, 20);
    }

    // ---- GROUNDS

    private void figures() {
        for (int figure = 0; figure <= 9; figure++) {
            NineMilesOff x = new NineMilesOff();
            due("keep with " + figure, x.keep(0, 1, 7, figure), 0);
            x.lays(0, 3);
            due("FIGURE", x.ground(3, 1), figure);
        }
        for (int figure : new int[] {-1, 10, Lands.LEAST, Lands.MOST}) {
            refused("keep(3, 1, 7, " + figure + ")", x -> x.keep(3, 1, 7, figure), -1);
        }
    }

    private void plainAtFirst() {
        NineMilesOff x = new NineMilesOff();
        for (int cell = 0; cell < 36; cell++) {
            due("KIND of " + cell, x.ground(cell, 0), 0);
            due("FIGURE of " + cell, x.ground(cell, 1), 0);
        }
    }

    private void kinds() {
        for (int kind = 0; kind <= 7; kind++) {
            NineMilesOff x = new NineMilesOff();
            due("keep of " + kind, x.keep(0, 1, kind, 0), 0);
            x.lays(0, 3);
            due("KIND", x.ground(3, 0), kind);
        }
        for (int kind : new int[] {-1, 8, Lands.LEAST, Lands.MOST}) {
            refused("keep(3, 1, " + kind + ", 0)", x -> x.keep(3, 1, kind, 0), -1);
        }
    }

    private void winter() {
        NineMilesOff x = new NineMilesOff();
        due("WINTER at first", x.count(7), 0);
        due("set(2, 1)", x.set(2, 1), 0);
        due("WINTER", x.count(7), 1);
        due("set(2, 1) once more", x.set(2, 1), 1);
        due("set(2, 0)", x.set(2, 0), 1);
        due("WINTER", x.count(7), 0);
        for (int v : new int[] {-1, 2, Lands.LEAST, Lands.MOST}) {
            refused("set(2, " + v + ")", y -> y.set(2, v), -1);
        }
    }

    private void distance(int what, int atFirst) {
        NineMilesOff x = new NineMilesOff();
        int before = atFirst;
        due("at first", x.count(5 + what), atFirst);
        for (int v : new int[] {0, 20, 1, 19}) {
            due("set(" + what + ", " + v + ")", x.set(what, v), before);
            due("it is", x.count(5 + what), v);
            before = v;
        }
        due("the other one stays", x.count(6 - what), what == 0 ? 6 : 3);
        for (int v : new int[] {-1, 21, Lands.LEAST, Lands.MOST}) {
            refused("set(" + what + ", " + v + ")", y -> y.set(what, v), -1);
        }
    }

    private static NineMilesOff of(int kind, int figure) {
        NineMilesOff x = new NineMilesOff();
        Lands.lay(x, kind, figure, 15);
        return x;
    }

    /** What ground tells of a KIND for each FIGURE 0 .. 9, in and out of WINTER. */
    private void grounds(int kind, int what, int... due) {
        for (int figure = 0; figure <= 9; figure++) {
            NineMilesOff x = of(kind, figure);
            due("of KIND " + kind + " with " + figure, x.ground(15, what), due[figure]);
            x.set(2, 1);
            due("in WINTER of KIND " + kind + " with " + figure, x.ground(15, what), due[figure]);
        }
    }

    /** A KIND is OPEN for so many FIGURES from 0 on, out of WINTER and in it. */
    private void opens(int kind, int figures, int inWinter) {
        for (int figure = 0; figure <= 9; figure++) {
            NineMilesOff x = of(kind, figure);
            due("OPEN, KIND " + kind + " with " + figure, x.ground(15, 3), figure < figures ? 1 : 0);
            due("OPEN CELLS", x.count(8), figure < figures ? 36 : 35);
            x.set(2, 1);
            due("OPEN in WINTER, KIND " + kind + " with " + figure, x.ground(15, 3), figure < inWinter ? 1 : 0);
            due("OPEN CELLS", x.count(8), figure < inWinter ? 36 : 35);
        }
    }

    private void othersLie() {
        grounds(1, 2, 0, 0, 0, 0, 0, 0, 0, 0, 0, 0);
        grounds(5, 2, 0, 0, 0, 0, 0, 0, 0, 0, 0, 0);
        grounds(7, 2, 0, 0, 0, 0, 0, 0, 0, 0, 0, 0);
    }

    private void othersOpen() {
        opens(1, 10, 10);
        opens(2, 10, 10);
        opens(7, 10, 10);
    }

    private void moreThanWhatItIsUnder() {
        NineMilesOff x = new NineMilesOff();
        int[][] costs = {{1, 1}, {2, 4}, {5, 9}};
        for (int[] cost : costs) {
            x.keep(0, 1, cost[0], 0);
            due("COST of KIND " + cost[0], x.cost(0), cost[1]);
        }
        due("HEIGHT of a BRIDGE, 1 more than a RIVER's", of(6, 9).ground(15, 2), 1);
        due("HEIGHT of a HILL, 2 more than a PLAIN's", of(2, 9).ground(15, 2), 2);
    }

    // ---- FAR

    private void farOfPlains() {
        NineMilesOff x = new NineMilesOff();
        for (int a = 0; a < 36; a++) {
            due("to itself, " + a, x.far(a, a), 0);
            due("far(" + a + ", 14)", x.far(a, 14), Math.abs(a / 6 - 2) + Math.abs(a % 6 - 2));
        }
    }

    private void farOfHeights() {
        for (int figure = 0; figure <= 9; figure++) {
            NineMilesOff x = of(3, figure);
            int half = (2 + figure) / 2;
            due("from a PLAIN to a MOUNTAIN with " + figure, x.far(14, 15), 1 + half);
            due("from a MOUNTAIN to a PLAIN with " + figure, x.far(15, 14), 1 + half);
        }
        NineMilesOff x = of(6, 0);
        due("HEIGHTS 0 and 1", x.far(14, 15), 1);
        Lands.lay(x, 2, 0, 14);
        due("HEIGHTS 2 and 1", x.far(14, 15), 1);
        Lands.lay(x, 3, 9, 16);
        due("HEIGHTS 1 and 11", x.far(15, 16), 6);
        due("HEIGHTS 2 and 11", x.far(14, 16), 6);
        Lands.lay(x, 3, 9, 15);
        due("HEIGHTS 11 and 11", x.far(15, 16), 1);
        Lands.lay(x, 3, 9, 0);
        due("the greatest", x.far(0, 35), 15);
        x.set(2, 1);
        due("of closed ones, too", x.far(0, 35), 15);
    }

    private void farRefused() {
        for (int cell : new int[] {-1, 36}) {
            refused("far(" + cell + ", 0)", x -> x.far(cell, 0), -1);
            refused("far(0, " + cell + ")", x -> x.far(0, cell), -1);
            refused("far of both " + cell, x -> x.far(cell, cell), -1);
        }
    }

    private void notBelowNearest() {
        for (int nearest = 0; nearest <= 6; nearest++) {
            NineMilesOff x = Lands.only(nearest, 20, Lands.LINE);
            int want = 0;
            for (int a = 0; a < 6; a++) {
                for (int b = 0; b < 6; b++) {
                    want += Math.abs(a - b) < nearest ? 0 : 1;
                }
            }
            due("PAIRS with NEAREST " + nearest, x.pairs(-1), want);
        }
    }

    private void notAboveFarthest() {
        for (int farthest = 0; farthest <= 6; farthest++) {
            NineMilesOff x = Lands.only(0, farthest, Lands.LINE);
            int want = 0;
            for (int a = 0; a < 6; a++) {
                for (int b = 0; b < 6; b++) {
                    want += Math.abs(a - b) > farthest ? 0 : 1;
                }
            }
            due("PAIRS with FARTHEST " + farthest, x.pairs(-1), want);
        }
        due("NEAREST is FARTHEST", Lands.only(3, 3, Lands.LINE).pairs(-1), 6);
        due("NEAREST above FARTHEST", Lands.only(4, 3, Lands.LINE).pairs(-1), 0);
    }

    private void nowhereAtFirst() {
        NineMilesOff x = new NineMilesOff();
        due("HE", x.count(0), -4);
        due("SHE", x.count(1), -4);
        Lands.lay(x, 5, 0, 9);
        due("HE on a closed one", x.stands(0, 9), -3);
        due("SHE on a closed one", x.stands(1, 9), -3);
        due("HE", x.count(0), -4);
        due("SHE", x.count(1), -4);
        due("HE on an OPEN one", x.stands(0, 8), -4);
        due("SHE on the same", x.stands(1, 8), -4);
        due("HE", x.count(0), 8);
        due("SHE", x.count(1), 8);
    }

    // ---- DAYS

    private void firstAndLastDay() {
        NineMilesOff x = Lands.put(new NineMilesOff(), 0, 3);
        due("DAY at first", x.count(2), 0);
        Lands.lastDay(x);
        due("DAY", x.count(2), 999);
        due("one DAY more", x.go(0, 0), -3);
        due("DAY", x.count(2), 999);
        due("by a text", Lands.tell(x, "d00;"), -2000);
        due("DAY", x.count(2), 999);
    }

    private void stays() {
        for (int cell : new int[] {0, 5, 14, 30, 35}) {
            NineMilesOff x = Lands.put(new NineMilesOff(), cell, cell);
            due("on " + cell, x.go(0, 0), 0);
            due("HE", x.count(0), cell);
            due("SHE", x.count(1), cell);
        }
        NineMilesOff x = Lands.put(Lands.only(0, 20, 14, 16), 14, 16);
        due("where no other can be gone", x.go(0, 0), 2);
        Lands.lay(x, 5, 0, 14, 16);
        due("on closed ones", x.go(0, 0), 2);
        due("HE", x.count(0), 14);
        due("SHE", x.count(1), 16);
    }

    /** A WAY from each CELL goes so far, but from these, which lie at the square's edge. */
    private void way(int way, int by, int... edge) {
        for (int cell = 0; cell < 36; cell++) {
            boolean off = false;
            for (int one : edge) {
                off |= one == cell;
            }
            NineMilesOff x = Lands.put(new NineMilesOff(), cell, cell);
            due("HIS from " + cell, x.go(way, 0), off ? -3 : 1);
            due("HE", x.count(0), off ? cell : cell + by);
            due("SHE", x.count(1), cell);
            x = Lands.put(new NineMilesOff(), cell, cell);
            due("HERS from " + cell, x.go(0, way), off ? -3 : 1);
            due("HE", x.count(0), cell);
            due("SHE", x.count(1), off ? cell : cell + by);
        }
    }

    private void ontoOpenOnes() {
        NineMilesOff x = Lands.put(Lands.only(0, 20, 14), 14, 14);
        for (int way = 1; way <= 4; way++) {
            due("HIS WAY " + way, x.go(way, 0), -3);
            due("HER WAY " + way, x.go(0, way), -3);
        }
        due("HE", x.count(0), 14);
        due("SHE", x.count(1), 14);
        due("DAY", x.count(2), 0);
        x.set(2, 1);
        due("onto ice", x.go(1, 4), 2);
        due("HE", x.count(0), 8);
        due("SHE", x.count(1), 20);
    }

    private void stopped() {
        NineMilesOff x = Lands.put(Lands.plains(3, 20), 0, 5);
        int[] fars = {4, 3, 2, 1, 0};
        int[] due = {0, 0, 1, 2, 3};
        for (int i = 0; i < fars.length; i++) {
            due("FAR", x.go(0, 2), fars[i]);
            due("STOPPED with FAR " + fars[i], x.count(3), due[i]);
        }
        due("PAIN", x.count(4), 0);
        x.set(0, 0);
        due("NEAREST 0", x.go(0, 0), 0);
        due("STOPPED", x.count(3), 3);
    }

    private void pain() {
        NineMilesOff x = Lands.put(Lands.plains(0, 3), 0, 1);
        int[] fars = {2, 3, 4, 5};
        int[] due = {0, 0, 1, 2};
        for (int i = 0; i < fars.length; i++) {
            due("FAR", x.go(0, 3), fars[i]);
            due("PAIN with FAR " + fars[i], x.count(4), due[i]);
        }
        due("STOPPED", x.count(3), 0);
        x.set(0, 9);
        x.set(1, 4);
        due("below NEAREST and above FARTHEST", x.go(0, 0), 5);
        due("STOPPED", x.count(3), 1);
        due("PAIN", x.count(4), 3);
    }

    private void countedFromNothing() {
        NineMilesOff x = Lands.put(Lands.plains(20, 20), 0, 0);
        due("STOPPED at first", x.count(3), 0);
        due("PAIN at first", x.count(4), 0);
        for (int day = 1; day <= 3; day++) {
            x.go(0, 0);
            due("STOPPED", x.count(3), day);
        }
        due("PAIN", x.count(4), 0);
        x = Lands.put(Lands.plains(0, 0), 0, 1);
        for (int day = 1; day <= 3; day++) {
            x.go(0, 0);
            due("PAIN", x.count(4), day);
        }
        due("STOPPED", x.count(3), 0);
    }

    private void closedUnderThem() {
        NineMilesOff x = Lands.put(Lands.plains(0, 20), 7, 8);
        Lands.lay(x, 5, 0, 7);
        due("HE is there", x.count(0), 7);
        due("HE stays", x.go(0, 0), 1);
        due("HE is there", x.count(0), 7);
        due("SHE not onto it", x.go(0, 2), -3);
        due("HE goes off it", x.go(1, 0), 2);
        due("HE not back", x.go(4, 0), -3);
        Lands.lay(x, 3, 0, 8);
        x.set(2, 1);
        due("SHE is on a MOUNTAIN in WINTER", x.count(1), 8);
        due("SHE stays", x.go(0, 0), 3);
        due("SHE goes off it", x.go(0, 4), 3);
        due("SHE not back", x.go(0, 1), -3);
    }

    // ---- promises

    private void newObject() {
        NineMilesOff x = new NineMilesOff();
        for (int cell = 0; cell < 36; cell++) {
            due("KIND of " + cell, x.ground(cell, 0), 0);
        }
        due("OPEN CELLS", x.count(8), 36);
        due("HE", x.count(0), -4);
        due("SHE", x.count(1), -4);
    }

    private void groundTold() {
        NineMilesOff x = of(4, 7);
        int[] due = {4, 7, 4, 1, 7};
        for (int what = 0; what < due.length; what++) {
            due("ground(15, " + what + ")", x.ground(15, what), due[what]);
        }
        for (int what : new int[] {-1, 5, Lands.LEAST, Lands.MOST}) {
            refused("ground(15, " + what + ")", y -> y.ground(15, what), -1);
        }
        for (int cell : new int[] {-1, 36}) {
            refused("ground(" + cell + ", 0)", y -> y.ground(cell, 0), -1);
        }
    }

    private void lays() {
        NineMilesOff x = of(4, 7);
        x.keep(0, 1, 6, 9);
        due("the KIND there was", x.lays(0, 15), 4);
        due("KIND", x.ground(15, 0), 6);
        due("FIGURE", x.ground(15, 1), 9);
        due("what is laid now", x.lays(0, 15), 6);
        due("CELLS beside it stay", x.ground(14, 0) + x.ground(16, 0) + x.ground(9, 0) + x.ground(21, 0), 0);
        refused("lays(-1, 0)", y -> y.lays(-1, 0), -1);
        refused("lays(8, 0)", y -> y.lays(8, 0), -1);
        refused("lays(3, -1)", y -> y.lays(3, -1), -1);
        refused("lays(3, 36)", y -> y.lays(3, 36), -1);
        refused("lays(4, 0)", y -> y.lays(4, 0), -11);
        for (int d : new int[] {0, 1, 2, 5, 6}) {
            refused("lays(" + d + ", 0)", y -> y.lays(d, 0), -12);
        }
    }

    private void whereItWas() {
        NineMilesOff x = new NineMilesOff();
        due("HE was nowhere", x.stands(0, 0), -4);
        due("SHE was nowhere", x.stands(1, 35), -4);
        due("HE was on 0", x.stands(0, 20), 0);
        due("HE stays on 20", x.stands(0, 20), 20);
        due("SHE was on 35", x.stands(1, 20), 35);
        Lands.lay(x, 5, 0, 20);
        due("HE was on one that is closed now", x.stands(0, 1), 20);
        due("no DAY goes by it", x.count(2), 0);
        for (int who : new int[] {-1, 2, Lands.LEAST, Lands.MOST}) {
            refused("stands(" + who + ", 0)", y -> y.stands(who, 0), -1);
        }
        refused("stands(0, -1)", y -> y.stands(0, -1), -1);
        refused("stands(1, 36)", y -> y.stands(1, 36), -1);
    }

    private void notOpen() {
        refused("stands(0, 35)", x -> x.stands(0, 35), -3);
        refused("stands(1, 35)", x -> x.stands(1, 35), -3);
        refused(Lands::nobody, "stands(0, 35) of nobody", x -> x.stands(0, 35), -3);
        NineMilesOff x = Lands.rich();
        x.set(2, 1);
        due("a RIVER in WINTER", x.stands(0, 35) >= 0 ? 1 : 0, 1);
        due("a MOUNTAIN in WINTER", x.stands(0, 20), -3);
    }

    private void set() {
        NineMilesOff x = new NineMilesOff();
        due("set(0, 5)", x.set(0, 5), 3);
        due("set(1, 9)", x.set(1, 9), 6);
        due("set(2, 1)", x.set(2, 1), 0);
        due("set(0, 4)", x.set(0, 4), 5);
        due("set(1, 2)", x.set(1, 2), 9);
        due("set(2, 0)", x.set(2, 0), 1);
        due("NEAREST", x.count(5), 4);
        due("FARTHEST", x.count(6), 2);
        for (int what : new int[] {-1, 3, Lands.LEAST, Lands.MOST}) {
            refused("set(" + what + ", 1)", y -> y.set(what, 1), -1);
        }
    }

    private void farThen() {
        NineMilesOff x = Lands.put(new NineMilesOff(), 14, 15);
        due("they go asunder", x.go(2, 3), 3);
        due("they come again", x.go(3, 2), 1);
        due("they change places", x.go(3, 2), 1);
        due("HE", x.count(0), 15);
        due("SHE", x.count(1), 14);
        due("onto one", x.go(0, 3), 0);
        Lands.lay(x, 3, 9, 21);
        due("up a MOUNTAIN", x.go(4, 0), 6);
        due("DAY", x.count(2), 5);
    }

    private void goRefused() {
        for (int way : new int[] {-1, 5, Lands.LEAST, Lands.MOST}) {
            refused("go(" + way + ", 0)", x -> x.go(way, 0), -1);
            refused("go(0, " + way + ")", x -> x.go(0, way), -1);
        }
        refused("go(2, 0), off the square", x -> x.go(2, 0), -3);
        refused(() -> Lands.lastDay(Lands.rich()), "go(0, 0) on the last DAY", x -> x.go(0, 0), -3);
        refused(Lands::nobody, "go(0, 0) of nobody", x -> x.go(0, 0), -3);
        refused(Lands::heAlone, "go(0, 0) without HER", x -> x.go(0, 0), -3);
        refused(Lands::sheAlone, "go(0, 0) without HIM", x -> x.go(0, 0), -3);
        refused(() -> Lands.put(Lands.plains(0, 20), 0, 30), "go(4, 4), SHE can not", x -> x.go(4, 4), -3);
        refused(() -> Lands.put(Lands.plains(0, 20), 30, 0), "go(4, 4), HE can not", x -> x.go(4, 4), -3);
    }
}
