/** LATE, HIS WAY, LETTER, THIRD; promises 21 to 24. */
final class LetterSentences extends Sentences {
    private static final int[] SNAKE = {0, 1, 2, 3, 4, 5, 11, 17, 16, 15, 14, 13, 12};

    @Override
    void all() {
        test("LATE: she was on a CELL (OPEN) d DAYS ago (0 .. 8)", this::daysAgo);
        test("may have gone any WAYS by OPEN CELLS till now and may go one more", this::oneMore);
        test("HIS WAYS (bits 0 .. 4) with which, whatever SHE does, they are not OFF at this DAY's end", this::hisWays);
        test("LATE (bits). -1, -3 HE is nowhere, the CELL is not OPEN.", this::lateRefused);
        test("HIS WAY: a ROW of CELLS, those on which HE was at the ends of DAYS one behind the other", this::anyCells);
        test("CELLS (bits) on which SHE can be at the last of these", this::cellsAtTheLast);
        test("never OFF at any of their ends", this::neverOff);
        test("SHE on OPEN CELLS; how many.", this::openOnes);
        test("HIS WAY by the ROW in SHELF d: CELLS (what 0, bits), how many (1).", this::whatIsTold);
        test("Refused as told: -1, -11, -12 (no ROW), -13 (no numbers; a number that is no CELL).", this::hisWayRefused);
        test("LETTER: at the end of which DAY (0 ..) HER CELL should be told", this::whichDay);
        test("so that, whatever it is, the fewest CELLS are left for HER at the last one, at worst", this::atWorst);
        test("of several the first; -4 none can be.", this::firstOfSeveral);
        test("LETTER; -4. -1, -11, -12, -13 likewise.", this::letterRefused);
        test("THIRD: OPEN CELLS that from both are as far as they must be: how many", this::third);
        test("that from both are as far as they must be: how many; the least; -4.", this::leastThird);
        test("THIRD: how many (what 0), the least (1; -4). -1, -3.", this::thirdRefused);
    }

    // ---- LATE

    private static NineMilesOff he(NineMilesOff x, int cell) {
        x.stands(0, cell);
        return x;
    }

    private void daysAgo() {
        NineMilesOff x = he(Lands.only(1, 20, SNAKE), 14);
        due("8 DAYS ago", x.late(0, 8), 1 + 4);
        due("7 DAYS ago", x.late(0, 7), 1 + 4 + 8);
        due("now, beside HIM", x.late(15, 0), 4);
        due("now, two STEPS off", x.late(16, 0), 1 + 4);
        due("now, three STEPS off", x.late(17, 0), 1 + 4 + 8);
        due("a DAY ago, three STEPS off", x.late(17, 1), 1 + 4);
        x.stands(1, 15);
        due("where SHE is does not matter", x.late(17, 0), 1 + 4 + 8);
    }

    private void oneMore() {
        NineMilesOff x = he(Lands.only(0, 3, Lands.LINE), 2);
        due("SHE may be on 4 at the end", x.late(3, 0), 1 + 4 + 8);
        due("SHE may be on 5 at the end", x.late(4, 0), 1 + 8);
        due("SHE may be on 5 at the end", x.late(3, 1), 1 + 8);
        due("SHE may be on any", x.late(2, 8), 1 + 8);
        x = he(Lands.only(0, 0, 14, 20, 35), 14);
        due("SHE is far off", x.late(35, 8), 0);
        due("SHE may be on either", x.late(20, 0), 0);
        Lands.lay(x, 5, 0, 20);
        due("SHE can but stay", x.late(14, 8), 1);
    }

    private void hisWays() {
        NineMilesOff x = he(Lands.plains(0, 20), 14);
        due("all five", x.late(0, 8), 31);
        due("the first CELL", he(Lands.plains(0, 20), 0).late(0, 8), 1 + 8 + 16);
        due("the last CELL", he(Lands.plains(0, 20), 35).late(0, 8), 1 + 2 + 4);
        Lands.lay(x, 5, 0, 8, 13, 15, 20);
        due("none but to stay", x.late(0, 8), 1);
        Lands.lay(x, 5, 0, 14);
        due("on a closed one", x.late(0, 8), 1);
        Lands.lay(x, 0, 0, 20);
        due("off a closed one", x.late(0, 8), 1 + 16);
        x = he(Lands.only(2, 3, Lands.LINE), 2);
        due("just NEAREST and just FARTHEST", x.late(5, 0), 1);
        x.set(0, 3);
        due("not with one that is too near", x.late(5, 0), 0);
        x.set(0, 2);
        x.set(1, 2);
        due("not with one that is too far", x.late(5, 0), 0);
        x.set(1, 4);
        due("one is safe more", x.late(5, 0), 1 + 4);
    }

    private void lateRefused() {
        for (int cell : new int[] {-1, 36, Lands.LEAST, Lands.MOST}) {
            refused("late(" + cell + ", 0)", x -> x.late(cell, 0), -1);
        }
        for (int d : new int[] {-1, 9, Lands.LEAST, Lands.MOST}) {
            refused("late(0, " + d + ")", x -> x.late(0, d), -1);
        }
        refused(Lands::nobody, "late(0, 0) of nobody", x -> x.late(0, 0), -3);
        refused(Lands::sheAlone, "late(0, 0) without HIM", x -> x.late(0, 0), -3);
        refused("late(35, 0), closed", x -> x.late(35, 0), -3);
        refused("late(35, 8), closed", x -> x.late(35, 8), -3);
        due("without HER", Lands.heAlone().late(0, 0) >= 0 ? 1 : 0, 1);
        NineMilesOff x = Lands.rich();
        x.set(2, 1);
        due("a RIVER in WINTER", x.late(35, 0) >= 0 ? 1 : 0, 1);
        due("a MOUNTAIN in WINTER", x.late(20, 0), -3);
    }

    // ---- HIS WAY

    private static NineMilesOff line(int nearest, int farthest, int... his) {
        NineMilesOff x = Lands.only(nearest, farthest, Lands.LINE);
        Lands.numbers(x, 0, 1, his);
        return x;
    }

    private void hisWayIs(NineMilesOff x, long cells) {
        due("CELLS", x.hisWay(0, 0), cells);
        due("how many", x.hisWay(0, 1), Long.bitCount(cells));
    }

    private void anyCells() {
        hisWayIs(line(0, 2, 0), 1 + 2 + 4);
        hisWayIs(line(0, 2, 0, 5), 8);
        hisWayIs(line(0, 2, 0, 5, 0), 4);
        hisWayIs(line(0, 2, 6, 6), 1 + 2);
        hisWayIs(line(0, 20, new int[100]), 63);
        NineMilesOff x = line(0, 2, 5);
        x.stands(0, 0);
        x.stands(1, 0);
        hisWayIs(x, 8 + 16 + 32);
    }

    private void cellsAtTheLast() {
        hisWayIs(line(1, 1, 2, 2), 2 + 8);
        hisWayIs(line(1, 1, 2, 3), 4 + 16);
        hisWayIs(line(1, 1, 2, 4), 8);
        hisWayIs(line(1, 1, 1, 4), 8);
        hisWayIs(line(1, 1, 0, 4), 0);
        NineMilesOff x = Lands.plains(0, 0);
        for (int cell : new int[] {0, 31, 32, 35}) {
            Lands.numbers(x, 0, 0, cell);
            hisWayIs(x, 1L << cell);
        }
    }

    private void neverOff() {
        hisWayIs(line(2, 3, 0), 4 + 8);
        hisWayIs(line(2, 3, 0, 0), 4 + 8);
        hisWayIs(line(3, 3, 0, 1, 2), 32);
        hisWayIs(line(3, 3, 0, 2), 0);
        hisWayIs(line(3, 3, 0, 2, 0), 0);
        hisWayIs(line(5, 5, 1), 0);
        hisWayIs(line(4, 3, 0), 0);
    }

    private void openOnes() {
        NineMilesOff x = line(0, 5, 0, 0);
        hisWayIs(x, 63);
        Lands.lay(x, 5, 0, 2);
        hisWayIs(x, 63 - 4);
        x = line(0, 1, 0, 4);
        hisWayIs(x, 0);
        x = line(2, 4, 1, 0);
        hisWayIs(x, 4 + 8 + 16);
        Lands.lay(x, 5, 0, 4);
        hisWayIs(x, 4 + 8);
        Lands.lay(x, 5, 0, 3);
        hisWayIs(x, 0);
        Lands.numbers(x, 0, 1, 1, 3);
        hisWayIs(x, 32);
        hisWayIs(Lands.only(0, 20), 0, 0);
    }

    private void hisWayIs(NineMilesOff x, int his, long cells) {
        Lands.numbers(x, 0, 1, his);
        hisWayIs(x, cells);
    }

    private void whatIsTold() {
        NineMilesOff x = Lands.plains(0, 20);
        hisWayIs(x, 0, (1L << 36) - 1);
        for (int sort = 0; sort < 3; sort++) {
            Lands.numbers(x, 3, sort, 35, 29);
            due("of SORT " + sort, x.hisWay(3, 1), 36);
        }
        for (int what : new int[] {-1, 2, Lands.LEAST, Lands.MOST}) {
            refused("hisWay(1, " + what + ")", y -> y.hisWay(1, what), -1000000001L);
        }
    }

    private void hisWayRefused() {
        for (int d : new int[] {-1, 8, Lands.LEAST, Lands.MOST}) {
            refused("hisWay(" + d + ", 0)", x -> x.hisWay(d, 0), -1000000001L);
        }
        refused("hisWay(4, 1)", x -> x.hisWay(4, 1), -1000000011L);
        refused("hisWay(3, 0)", x -> x.hisWay(3, 0), -1000000012L);
        refused("hisWay(5, 0)", x -> x.hisWay(5, 0), -1000000013L);
        refused("hisWay(6, 0)", x -> x.hisWay(6, 0), -1000000013L);
        for (int number : new int[] {-1, 36, -128, 127}) {
            for (int sort = 0; sort < 3; sort++) {
                for (int[] row : new int[][] {{number}, {number, 1}, {1, number}}) {
                    NineMilesOff x = Lands.plains(0, 20);
                    Lands.numbers(x, 0, sort, row);
                    due("with " + number + " of SORT " + sort, x.hisWay(0, 1), -1000000013L);
                }
            }
        }
        for (int number : new int[] {Lands.LEAST, Lands.MOST, 36 + 256}) {
            NineMilesOff x = Lands.plains(0, 20);
            Lands.numbers(x, 0, 1, 1, number);
            due("with " + number, x.hisWay(0, 1), -1000000013L);
        }
        NineMilesOff x = Lands.plains(0, 20);
        Lands.numbers(x, 0, 0, 256, 256 + 35);
        due("bytes, cut to CELLS", x.hisWay(0, 1), 36);
    }

    // ---- LETTER

    private void letterIs(NineMilesOff x, int day, int... his) {
        for (int sort = 0; sort < 3; sort++) {
            Lands.numbers(x, 0, sort, his);
            due("of SORT " + sort + ", " + his.length + " DAYS", x.letter(0), day);
        }
    }

    private void whichDay() {
        NineMilesOff x = Lands.only(1, 1, Lands.LINE);
        letterIs(x, 0, 2);
        letterIs(x, 1, 2, 3);
        letterIs(x, 1, 2, 3, 3);
        letterIs(x, 1, 2, 3, 3, 3);
        letterIs(x, 2, 2, 3, 2);
        x.set(0, 0);
        x.set(1, 20);
        letterIs(x, 99, new int[100]);
    }

    private void atWorst() {
        NineMilesOff x = Lands.only(2, 3, Lands.LINE);
        letterIs(x, 1, 0, 1);
        letterIs(x, 4, 0, 0, 5, 5, 4);
        x = Lands.only(1, 1, Lands.LINE);
        letterIs(x, 1, 1, 2, 2);
        letterIs(x, 0, 0, 1, 0);
        letterIs(Lands.only(1, 1, 0, 1, 6), 1, 1, 7);
        letterIs(Lands.only(1, 1, 35, 34, 29), 1, 34, 28);
        x = Lands.only(0, 20, 0, 1, 2, 35);
        letterIs(x, 1, 0, 0);
        x = Lands.only(0, 20, 0, 2, 14);
        letterIs(x, 0, 0, 0, 0);
    }

    private void firstOfSeveral() {
        NineMilesOff x = Lands.plains(0, 0);
        letterIs(x, 0, 7, 7, 7);
        letterIs(x, 0, 7, 8, 14);
        letterIs(x, -4, 7, 9);
        letterIs(x, -4, 7, 9, 9, 9);
        x.set(0, 11);
        x.set(1, 20);
        letterIs(x, -4, 0);
        letterIs(Lands.only(0, 20), -4, 0, 0);
        letterIs(Lands.only(1, 1, Lands.LINE), 0, 2, 2, 2);
    }

    private void letterRefused() {
        for (int d : new int[] {-1, 8, Lands.LEAST, Lands.MOST}) {
            refused("letter(" + d + ")", x -> x.letter(d), -1);
        }
        refused("letter(4)", x -> x.letter(4), -11);
        refused("letter(3)", x -> x.letter(3), -12);
        refused("letter(5)", x -> x.letter(5), -13);
        refused("letter(6)", x -> x.letter(6), -13);
        for (int number : new int[] {-1, 36, -128, 127}) {
            for (int[] row : new int[][] {{number}, {number, 1}, {1, number}}) {
                letterIs(Lands.plains(0, 20), -13, row);
            }
        }
        NineMilesOff none = Lands.plains(11, 20);
        Lands.numbers(none, 0, 1, 0, 36);
        due("-13 where none can be", none.letter(0), -13);
    }

    // ---- THIRD

    private void thirdIs(NineMilesOff x, int many, int least) {
        due("how many", x.third(0), many);
        due("the least", x.third(1), least);
    }

    private void third() {
        NineMilesOff x = Lands.put(Lands.only(2, 3, Lands.LINE), 0, 5);
        thirdIs(x, 2, 2);
        x.set(1, 2);
        thirdIs(x, 0, -4);
        x.set(1, 4);
        thirdIs(x, 2, 2);
        x.set(0, 1);
        thirdIs(x, 4, 1);
        x.set(1, 3);
        thirdIs(x, 2, 2);
        Lands.lay(x, 5, 0, 2);
        thirdIs(x, 1, 3);
        Lands.lay(x, 5, 0, 0, 5);
        thirdIs(x, 1, 3);
        x.set(0, 0);
        x.set(1, 5);
        thirdIs(x, 3, 1);
        x = Lands.put(Lands.plains(0, 0), 7, 7);
        thirdIs(x, 1, 7);
        Lands.lay(x, 3, 9, 8);
        x.set(0, 6);
        x.set(1, 6);
        thirdIs(x, 4, 8);
    }

    private void leastThird() {
        thirdIs(Lands.put(Lands.plains(0, 20), 35, 0), 36, 0);
        thirdIs(Lands.put(Lands.plains(10, 10), 0, 0), 1, 35);
        thirdIs(Lands.put(Lands.plains(10, 10), 0, 5), 0, -4);
        thirdIs(Lands.put(Lands.plains(5, 5), 5, 30), 6, 0);
        thirdIs(Lands.put(Lands.plains(7, 6), 5, 30), 0, -4);
    }

    private void thirdRefused() {
        for (int what : new int[] {-1, 2, Lands.LEAST, Lands.MOST}) {
            refused("third(" + what + ")", x -> x.third(what), -1);
        }
        for (int what = 0; what < 2; what++) {
            int asked = what;
            refused(Lands::nobody, "third of nobody", x -> x.third(asked), -3);
            refused(Lands::heAlone, "third without HER", x -> x.third(asked), -3);
            refused(Lands::sheAlone, "third without HIM", x -> x.third(asked), -3);
        }
    }
}
