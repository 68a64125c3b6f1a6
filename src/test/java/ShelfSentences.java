/** THE IMAGE, what is told, SHELVES; promises 31 to 40. */
final class ShelfSentences extends Sentences {
    @Override
    void all() {
        image();
        rows();
        test("`int count(int what)`: 0 where HE stands (-4), 1 SHE (-4)", this::countWhere);
        test("2 DAY, 3 DAYS it STOPPED, 4 of PAIN, 5 NEAREST, 6 FARTHEST, 7 WINTER, 8 OPEN CELLS", this::countTold);
        test("-1 for others.", this::countOthers);
        shelves();
        costs();
    }

    private void image() {
        test("THE IMAGE: all that there is, but SHELVES (and THE IMAGE)", this::allThatThereIs);
        test("RESTORED all is as it was then.", this::asItWasThen);
        test("when THE IMAGE is RESTORED, SHELVES stay as they are.", this::shelvesStay);
        test("THE IMAGE is taken: DAY.", this::imageTaken);
        test("THE IMAGE is RESTORED: DAY. -3 there is none.", this::noImage);
    }

    private void rows() {
        test("SHELVES 0 .. 7 each hold nothing (at first)", this::nothingAtFirst);
        test("a GROUND, a ROW. A ROW has", this::oneOfBoth);
        test("A ROW has a SORT (0 bytes, 1 ints, 2 longs)", this::sorts);
        test("and 0 .. 100 elements", this::sizes);
        test("0 at first; what is put in", this::noughtAtFirst);
        test("what is put in keeps its lowest bits (of longs the number itself).", this::lowestBits);
    }

    private void shelves() {
        test("what = 0 nothing (the others do not matter)", this::keepNothing);
        test("1 a GROUND of KIND k with a FIGURE: 0. -1.", this::keepGround);
        test("SHELF d gets a ROW of a SORT: 0. -1 (n above 100); -14.", this::row);
        test("-14 a size below 0", this::sizeBelow);
        test("Element i of the ROW becomes v: 0. -1, -11, -12, -13.", this::put);
        test("IllegalArgumentException: no such SHELF", this::noShelf);
        test("IllegalStateException: no ROW, no such place.", this::noRowNoPlace);
        test("n elements of the ROW in SHELF d from i on come to that in SHELF e from j on: n.", this::copies);
        test("-1, -11 (either), -12 (no ROWS of one SORT), -13. ## Promise 39", this::copyRefused);
        test("-13 a place that isn't there (a number or a size that isn't as told, too)", this::placesAndSizes);
    }

    private void costs() {
        test("COST of the one on SHELF d: PLAIN 3", () -> costs(0, 3, 3, 3, 3, 3, 3, 3, 3, 3, 3));
        test("ROAD 2 less", () -> costs(1, 1, 1, 1, 1, 1, 1, 1, 1, 1, 1));
        test("HILL 1 more", () -> costs(2, 4, 4, 4, 4, 4, 4, 4, 4, 4, 4));
        test("MOUNTAIN twice a HILL's", () -> costs(3, 8, 8, 8, 8, 8, 8, 8, 8, 8, 8));
        test("PASS a MOUNTAIN's less FIGURE, 1 at least", () -> costs(4, 8, 7, 6, 5, 4, 3, 2, 1, 1, 1));
        test("RIVER 6 more", () -> costs(5, 9, 9, 9, 9, 9, 9, 9, 9, 9, 9));
        test("BRIDGE a RIVER's and FIGURE", () -> costs(6, 9, 10, 11, 12, 13, 14, 15, 16, 17, 18));
        test("WOOD FIGURE more", () -> costs(7, 3, 4, 5, 6, 7, 8, 9, 10, 11, 12));
        test("WOOD FIGURE more. -1, -11, -12 (a ROW).", this::costRefused);
        test("The FAILURE of the one on SHELF d is thrown, and caught: its FIGURE", this::failures);
        test("of HILLS 100 more (of MOUNTAINS, PASSES, too)", this::failuresOfHills);
        test("of PASSES 200 plus their COST, in place of all that (FIGURE, too)",
            () -> tosses(4, -15, 207, 206, 205, 204, 203, 202, 201, 201, 201));
        test("-15: ROADS, and any with FIGURE 0, have none.", this::noFailures);
        test("-15 a FAILURE that is none.", this::noFailures);
        test("-1, -11, -12 (a ROW); -15", this::tossRefused);
    }

    // ---- THE IMAGE

    private void allThatThereIs() {
        NineMilesOff x = Lands.rich();
        NineMilesOff y = Lands.rich();
        x.image();
        x.stands(0, 0);
        x.stands(1, 30);
        x.set(0, 20);
        x.set(1, 0);
        x.go(0, 0);
        x.set(2, 1);
        for (int cell = 0; cell < 36; cell++) {
            x.lays(3, cell);
        }
        due("STOPPED", x.count(3), y.count(3) + 1);
        due("PAIN", x.count(4), y.count(4) + 1);
        x.restore();
        y.image();
        dueTexts("all", Lands.all(x), Lands.all(y));
    }

    private void asItWasThen() {
        NineMilesOff x = new NineMilesOff();
        x.image();
        Lands.put(x, 3, 4);
        x.go(0, 0);
        Lands.lay(x, 3, 9, 35);
        due("as at first", x.restore(), 0);
        due("HE", x.count(0), -4);
        due("SHE", x.count(1), -4);
        due("KIND", x.ground(35, 0), 0);
        due("STOPPED", x.count(3), 0);
        Lands.put(x, 5, 6);
        due("once more", x.restore(), 0);
        due("HE", x.count(0), -4);
        x.set(0, 9);
        x.image();
        x.set(0, 1);
        x.restore();
        due("the later image", x.count(5), 9);
        x.set(0, 2);
        x.restore();
        due("the later image once more", x.count(5), 9);
    }

    private void shelvesStay() {
        NineMilesOff x = new NineMilesOff();
        x.keep(0, 1, 4, 3);
        Lands.numbers(x, 1, 1, 7, 8);
        x.keep(2, 1, 2, 1);
        x.image();
        x.keep(0, 0, 0, 0);
        x.put(1, 0, 9);
        Lands.numbers(x, 2, 2, 5);
        x.keep(3, 1, 6, 6);
        x.restore();
        due("nothing", x.cost(0), -11);
        due("what was put", x.element(1, 0), 9);
        due("what stayed", x.element(1, 1), 8);
        due("a ROW", x.element(2, 0), 5);
        due("a GROUND", x.cost(3), 15);
    }

    private void imageTaken() {
        NineMilesOff x = Lands.put(new NineMilesOff(), 0, 3);
        due("DAY 0", x.image(), 0);
        x.go(0, 0);
        due("DAY 1", x.image(), 1);
        due("DAY 1 once more", x.image(), 1);
        due("nothing else changes", x.count(2), 1);
        due("on the last DAY", Lands.lastDay(x).image(), 999);
        x.stands(0, 9);
        due("the last DAY", x.restore(), 999);
        due("HE", x.count(0), 0);
    }

    private void noImage() {
        NineMilesOff x = Lands.put(new NineMilesOff(), 0, 3);
        due("none", x.restore(), -3);
        x.go(0, 0);
        due("none yet", x.restore(), -3);
        due("nothing changes", x.count(2), 1);
        due("HE", x.count(0), 0);
        x.image();
        due("one", x.restore(), 1);
        x.go(0, 0);
        due("still there", x.restore(), 1);
        due("DAY", x.count(2), 1);
    }

    // ---- what is told

    private void countWhere() {
        NineMilesOff x = new NineMilesOff();
        due("HE", x.count(0), -4);
        due("SHE", x.count(1), -4);
        x.stands(1, 0);
        due("HE", x.count(0), -4);
        due("SHE", x.count(1), 0);
        x.stands(0, 35);
        due("HE", x.count(0), 35);
    }

    private void countTold() {
        NineMilesOff x = Lands.put(Lands.plains(2, 3), 0, 0);
        x.go(0, 0);
        x.go(0, 3);
        x.go(0, 3);
        x.go(0, 3);
        x.go(0, 3);
        x.set(2, 1);
        Lands.lay(x, 3, 1, 30, 31, 32);
        int[] due = {0, 4, 5, 2, 1, 2, 3, 1, 33};
        for (int what = 0; what < due.length; what++) {
            due("count(" + what + ")", x.count(what), due[what]);
        }
        due("all OPEN", new NineMilesOff().count(8), 36);
        due("none OPEN", Lands.only(0, 20).count(8), 0);
    }

    private void countOthers() {
        for (int what : new int[] {-1, 9, 10, Lands.LEAST, Lands.MOST}) {
            refused("count(" + what + ")", x -> x.count(what), -1);
        }
    }

    // ---- ROWS

    private void nothingAtFirst() {
        NineMilesOff x = new NineMilesOff();
        for (int d = 0; d < 8; d++) {
            int shelf = d;
            due("cost(" + d + ")", x.cost(d), -11);
            due("toss(" + d + ")", x.toss(d), -11);
            due("lays(" + d + ", 0)", x.lays(d, 0), -11);
            due("land(" + d + ")", x.land(d), -11);
            due("put(" + d + ", 0, 0)", x.put(d, 0, 0), -11);
            due("letter(" + d + ")", x.letter(d), -11);
            due("copy(" + d + ")", x.copy(d, 0, d, 0, 0), -11);
            due("element(" + d + ", 0)", answer(x, y -> y.element(shelf, 0)), illegalState());
        }
        for (int d : new int[] {-1, 8, Lands.LEAST, Lands.MOST}) {
            refused("keep(" + d + ", 1, 0, 0)", y -> y.keep(d, 1, 0, 0), -1);
            refused("keep(" + d + ", 0, 0, 0)", y -> y.keep(d, 0, 0, 0), -1);
            refused("row(" + d + ", 0, 1)", y -> y.row(d, 0, 1), -1);
            refused("put(" + d + ", 0, 1)", y -> y.put(d, 0, 1), -1);
            refused("copy(" + d + ", 0, 1, 0, 1)", y -> y.copy(d, 0, 1, 0, 1), -1);
            refused("copy(1, 0, " + d + ", 0, 1)", y -> y.copy(1, 0, d, 0, 1), -1);
        }
    }

    private void oneOfBoth() {
        NineMilesOff x = new NineMilesOff();
        Lands.numbers(x, 0, 1, 4, 5);
        x.keep(0, 1, 7, 9);
        due("a GROUND over a ROW", x.cost(0), 12);
        due("no element any more", answer(x, y -> y.element(0, 0)), illegalState());
        due("put", x.put(0, 0, 1), -12);
        due("hisWay", x.hisWay(0, 0), -1000000012L);
        x.row(0, 1, 2);
        due("a ROW over a GROUND", x.cost(0), -12);
        due("of new elements", x.element(0, 0) + x.element(0, 1), 0);
        x.put(0, 1, 3);
        x.keep(0, 0, 0, 0);
        due("nothing over a ROW", x.cost(0), -11);
        due("no element any more", answer(x, y -> y.element(0, 1)), illegalState());
        x.keep(0, 1, 7, 9);
        x.keep(0, 0, 0, 0);
        due("nothing over a GROUND", x.lays(0, 3), -11);
        due("each SHELF by itself", x.keep(7, 1, 0, 0) + x.cost(6), -11);
    }

    private void sorts() {
        for (int sort = 0; sort <= 2; sort++) {
            due("row(0, " + sort + ", 1)", new NineMilesOff().row(0, sort, 1), 0);
        }
        for (int sort : new int[] {-1, 3, Lands.LEAST, Lands.MOST}) {
            refused("row(1, " + sort + ", 1)", x -> x.row(1, sort, 1), -1);
            refused("row(4, " + sort + ", 0)", x -> x.row(4, sort, 0), -1);
        }
    }

    private void sizes() {
        for (int n : new int[] {0, 1, 99, 100}) {
            for (int sort = 0; sort <= 2; sort++) {
                NineMilesOff x = new NineMilesOff();
                due("row(0, " + sort + ", " + n + ")", x.row(0, sort, n), 0);
                for (int i = 0; i < n; i++) {
                    due("put(0, " + i + ", 7)", x.put(0, i, 7), 0);
                }
                due("beyond", x.put(0, n, 7), -13);
                due("below", x.put(0, -1, 7), -13);
                for (int i = 0; i < n; i++) {
                    due("element(0, " + i + ")", x.element(0, i), 7);
                }
                due("beyond", answer(x, y -> y.element(0, n)), illegalState());
            }
        }
        for (int n : new int[] {101, 102, Lands.MOST}) {
            refused("row(1, 1, " + n + ")", x -> x.row(1, 1, n), -1);
        }
    }

    private void noughtAtFirst() {
        NineMilesOff x = new NineMilesOff();
        for (int sort = 0; sort <= 2; sort++) {
            x.row(0, sort, 100);
            for (int i = 0; i < 100; i++) {
                due("element(0, " + i + ") of SORT " + sort, x.element(0, i), 0);
                x.put(0, i, i + 1);
            }
        }
        x.row(0, 2, 1);
        due("a new one over a greater one", x.element(0, 0), 0);
        x.row(0, 1, 3);
        due("a greater one over it", x.element(0, 2), 0);
    }

    private void lowestBits() {
        int[] put = {0, 1, -1, 127, 128, 129, 255, 256, -128, -129, 70000, Lands.LEAST, Lands.MOST};
        int[] bytes = {0, 1, -1, 127, -128, -127, -1, 0, -128, 127, 112, 0, -1};
        NineMilesOff x = new NineMilesOff();
        for (int sort = 0; sort <= 2; sort++) {
            x.row(0, sort, 2);
            for (int i = 0; i < put.length; i++) {
                due("put(0, 1, " + put[i] + ")", x.put(0, 1, put[i]), 0);
                due("of SORT " + sort, x.element(0, 1), sort == 0 ? bytes[i] : put[i]);
                due("the one ahead", x.element(0, 0), 0);
            }
        }
    }

    // ---- SHELVES

    private void keepNothing() {
        int[][] others = {{0, 0}, {-1, -1}, {8, 10}, {Lands.LEAST, Lands.MOST}};
        for (int[] other : others) {
            NineMilesOff x = Lands.rich();
            due("keep(3, 0, ..)", x.keep(3, 0, other[0], other[1]), 0);
            due("keep(1, 0, ..)", x.keep(1, 0, other[0], other[1]), 0);
            due("keep(4, 0, ..)", x.keep(4, 0, other[0], other[1]), 0);
            due("nothing for a GROUND", x.cost(3), -11);
            due("nothing for a ROW", x.put(1, 0, 0), -11);
            due("nothing for nothing", x.cost(4), -11);
            refused("keep(8, 0, ..)", y -> y.keep(8, 0, other[0], other[1]), -1);
        }
    }

    private void keepGround() {
        NineMilesOff x = Lands.rich();
        for (int d = 0; d < 8; d++) {
            due("keep(" + d + ", 1, 6, 9)", x.keep(d, 1, 6, 9), 0);
            due("COST", x.cost(d), 18);
        }
        for (int what : new int[] {-1, 2, Lands.LEAST, Lands.MOST}) {
            refused("keep(3, " + what + ", 0, 0)", y -> y.keep(3, what, 0, 0), -1);
            refused("keep(1, " + what + ", 0, 0)", y -> y.keep(1, what, 0, 0), -1);
        }
        refused("keep(1, 1, 8, 0)", y -> y.keep(1, 1, 8, 0), -1);
        refused("keep(1, 1, -1, 0)", y -> y.keep(1, 1, -1, 0), -1);
        refused("keep(1, 1, 0, 10)", y -> y.keep(1, 1, 0, 10), -1);
        refused("keep(1, 1, 0, -1)", y -> y.keep(1, 1, 0, -1), -1);
    }

    private void row() {
        NineMilesOff x = Lands.rich();
        for (int d = 0; d < 8; d++) {
            due("row(" + d + ", 2, 100)", x.row(d, 2, 100), 0);
            due("the last place", x.put(d, 99, 1), 0);
        }
        for (int d : new int[] {1, 3, 4}) {
            refused("row(" + d + ", 1, 101)", y -> y.row(d, 1, 101), -1);
            refused("row(" + d + ", 1, -1)", y -> y.row(d, 1, -1), -14);
        }
    }

    private void sizeBelow() {
        for (int n : new int[] {-1, -2, -100, -101, Lands.LEAST}) {
            for (int sort = 0; sort <= 2; sort++) {
                int of = sort;
                refused("row(1, " + sort + ", " + n + ")", x -> x.row(1, of, n), -14);
            }
        }
    }

    private void put() {
        for (int d : new int[] {-1, 8}) {
            refused("put(" + d + ", 0, 0)", x -> x.put(d, 0, 0), -1);
        }
        refused("put(4, 0, 0)", x -> x.put(4, 0, 0), -11);
        refused("put(3, 0, 0)", x -> x.put(3, 0, 0), -12);
        refused("put(5, 0, 0), no bytes", x -> x.put(5, 0, 0), -13);
        for (int i : new int[] {-1, 3, 99, 100, Lands.LEAST, Lands.MOST}) {
            refused("put(1, " + i + ", 0)", x -> x.put(1, i, 0), -13);
        }
        NineMilesOff x = Lands.rich();
        due("the last", x.put(1, 2, 99), 0);
        due("it is", x.element(1, 2), 99);
        due("the others stay", x.element(1, 0) * 100 + x.element(1, 1), 1213);
    }

    private void noShelf() {
        for (int d : new int[] {-1, 8, Lands.LEAST, Lands.MOST}) {
            for (int i : new int[] {0, -1, 100}) {
                refused("element(" + d + ", " + i + ")", x -> x.element(d, i), illegalArgument());
            }
        }
    }

    private void noRowNoPlace() {
        refused("element(4, 0)", x -> x.element(4, 0), illegalState());
        refused("element(4, -1)", x -> x.element(4, -1), illegalState());
        refused("element(3, 0)", x -> x.element(3, 0), illegalState());
        refused("element(5, 0)", x -> x.element(5, 0), illegalState());
        for (int i : new int[] {-1, 3, 99, 100, Lands.LEAST, Lands.MOST}) {
            refused("element(1, " + i + ")", x -> x.element(1, i), illegalState());
        }
        due("the first", answer(Lands.rich(), x -> x.element(1, 0)), 12);
        due("the last", answer(Lands.rich(), x -> x.element(1, 2)), 14);
    }

    private void elements(NineMilesOff x, int d, int... want) {
        for (int i = 0; i < want.length; i++) {
            int place = i;
            due("element(" + d + ", " + i + ")", answer(x, y -> y.element(d, place)), want[i]);
        }
        due("as many", answer(x, y -> y.element(d, want.length)), illegalState());
    }

    private void copies() {
        for (int sort = 0; sort <= 2; sort++) {
            NineMilesOff x = new NineMilesOff();
            Lands.numbers(x, 0, sort, 1, 2, 3, 4, 5);
            Lands.numbers(x, 7, sort, -1, -2, -3);
            due("none", x.copy(0, 0, 7, 0, 0), 0);
            due("none at either end", x.copy(0, 5, 7, 3, 0), 0);
            elements(x, 7, -1, -2, -3);
            due("one", x.copy(0, 4, 7, 2, 1), 1);
            elements(x, 7, -1, -2, 5);
            due("as many as there is place for", x.copy(0, 1, 7, 0, 3), 3);
            elements(x, 7, 2, 3, 4);
            elements(x, 0, 1, 2, 3, 4, 5);
            due("all onto itself", x.copy(0, 0, 0, 0, 5), 5);
            elements(x, 0, 1, 2, 3, 4, 5);
            due("up in itself", x.copy(0, 0, 0, 1, 4), 4);
            elements(x, 0, 1, 1, 2, 3, 4);
            due("down in itself", x.copy(0, 2, 0, 0, 3), 3);
            elements(x, 0, 2, 3, 4, 3, 4);
            x.row(0, sort, 100);
            x.put(0, 99, 9);
            x.row(7, sort, 100);
            due("100", x.copy(0, 0, 7, 0, 100), 100);
            due("the last", x.element(7, 99), 9);
        }
    }

    private void copyRefused() {
        for (int d : new int[] {-1, 8}) {
            refused("copy(" + d + ", 0, 1, 0, 1)", x -> x.copy(d, 0, 1, 0, 1), -1);
            refused("copy(1, 0, " + d + ", 0, 1)", x -> x.copy(1, 0, d, 0, 1), -1);
        }
        refused("copy(4, 0, 1, 0, 1)", x -> x.copy(4, 0, 1, 0, 1), -11);
        refused("copy(1, 0, 4, 0, 1)", x -> x.copy(1, 0, 4, 0, 1), -11);
        refused("copy(4, 0, 4, 0, 1)", x -> x.copy(4, 0, 4, 0, 1), -11);
        int[][] unlike = {{1, 3}, {3, 1}, {3, 7}, {3, 3}, {0, 1}, {1, 0}, {1, 2}, {2, 1}, {0, 2}, {2, 5}, {3, 0}, {5, 7}};
        for (int[] one : unlike) {
            refused("copy(" + one[0] + ", 0, " + one[1] + ", 0, 0)", x -> x.copy(one[0], 0, one[1], 0, 0), -12);
            refused("copy(" + one[0] + ", 0, " + one[1] + ", 0, 1)", x -> x.copy(one[0], 0, one[1], 0, 1), -12);
        }
    }

    private void placesAndSizes() {
        int[][] wrong = {{-1, 0, 1}, {0, -1, 1}, {3, 0, 1}, {0, 2, 1}, {0, 0, 3}, {1, 0, 3}, {2, 0, 2}, {0, 1, 2},
            {0, 0, -1}, {4, 0, 0}, {0, 3, 0}, {-1, 0, 0}, {0, -1, 0}, {0, 0, 100}, {0, 0, 101}, {0, 0, Lands.LEAST},
            {0, 0, Lands.MOST}, {Lands.MOST, 0, 1}, {0, Lands.MOST, 1}, {1, 1, Lands.MOST}, {Lands.MOST, 0, Lands.MOST},
            {Lands.LEAST, 0, 1}, {0, Lands.LEAST, 1}, {Lands.LEAST, 0, Lands.LEAST}};
        for (int[] w : wrong) {
            refused("copy(1, " + w[0] + ", 6, " + w[1] + ", " + w[2] + ")", x -> x.copy(1, w[0], 6, w[1], w[2]), -13);
        }
        refused("copy(5, 0, 0, 0, 1) of no bytes", x -> x.copy(5, 0, 0, 0, 1), -13);
        refused("copy(0, 0, 5, 0, 1) to no bytes", x -> x.copy(0, 0, 5, 0, 1), -13);
        refused("hisWay(5, 0), no numbers", x -> x.hisWay(5, 0), -1000000013L);
        refused("letter(6), a number that is no CELL", x -> x.letter(6), -13);
    }

    // ---- COST, FAILURE

    private void costs(int kind, int... due) {
        for (int figure = 0; figure <= 9; figure++) {
            NineMilesOff x = new NineMilesOff();
            x.keep(5, 1, kind, figure);
            due("COST of KIND " + kind + " with " + figure, x.cost(5), due[figure]);
            x.set(2, 1);
            due("COST in WINTER of KIND " + kind + " with " + figure, x.cost(5), due[figure]);
        }
    }

    private void tosses(int kind, int... due) {
        for (int figure = 0; figure <= 9; figure++) {
            NineMilesOff x = new NineMilesOff();
            x.keep(5, 1, kind, figure);
            due("FAILURE of KIND " + kind + " with " + figure, answer(x, y -> y.toss(5)), due[figure]);
            due("it stays on the SHELF", x.toss(5), due[figure]);
        }
    }

    private void failures() {
        for (int kind : new int[] {0, 5, 6, 7}) {
            tosses(kind, -15, 1, 2, 3, 4, 5, 6, 7, 8, 9);
        }
    }

    private void failuresOfHills() {
        tosses(2, -15, 101, 102, 103, 104, 105, 106, 107, 108, 109);
        tosses(3, -15, 101, 102, 103, 104, 105, 106, 107, 108, 109);
    }

    private void noFailures() {
        tosses(1, -15, -15, -15, -15, -15, -15, -15, -15, -15, -15);
        for (int kind = 0; kind <= 7; kind++) {
            NineMilesOff x = new NineMilesOff();
            x.keep(5, 1, kind, 0);
            due("FAILURE of KIND " + kind + " with 0", answer(x, y -> y.toss(5)), -15);
        }
        refused("toss(7) of a ROAD", x -> x.toss(7), -15);
    }

    private void costRefused() {
        for (int d : new int[] {-1, 8, Lands.LEAST, Lands.MOST}) {
            refused("cost(" + d + ")", x -> x.cost(d), -1);
        }
        refused("cost(4)", x -> x.cost(4), -11);
        for (int d : new int[] {0, 1, 2, 5}) {
            refused("cost(" + d + ")", x -> x.cost(d), -12);
        }
    }

    private void tossRefused() {
        for (int d : new int[] {-1, 8, Lands.LEAST, Lands.MOST}) {
            refused("toss(" + d + ")", x -> x.toss(d), -1);
        }
        refused("toss(4)", x -> x.toss(4), -11);
        for (int d : new int[] {0, 1, 2, 5}) {
            refused("toss(" + d + ")", x -> x.toss(d), -12);
        }
    }
}
