/** A GAME, SNOW, MEAN, CURVE; promises 25 to 28. */
final class ChanceSentences extends Sentences {
    @Override
    void all() {
        test("A GAME of this DAY: both choose WAYS that can be gone", this::waysThatCanBeGone);
        test("HE wants FAR least, SHE greatest: the first pair (10 HIS and HERS)", this::firstPair);
        test("by which neither does better by another one alone; -4", this::neitherDoesBetter);
        test("the least FAR HE can have, whatever SHE does.", this::leastFar);
        test("A GAME: the pair (what 0; -4), the least FAR (1). -1, -3.", this::gameRefused);
        test("SNOW: each CELL is passable by its CHANCE, by itself", this::byItself);
        test("how likely there is a way from a CELL to another (both passable)", this::bothPassable);
        test("a fraction in least terms; -3 more than 8 CELLS with CHANCE 1 to 9.", this::leastTerms);
        test("-3 more than 8 CELLS with CHANCE 1 to 9", this::moreThanEight);
        test("SNOW, part 0 above, 1 below the line. Refused as told: -1, -3.", this::snowRefused);
        test("MEAN of FAR of all PAIRS: a fraction in least terms", this::mean);
        test("(0 by 1 none)", this::meanOfNone);
        test("MEAN; part likewise. Refused as told: -1.", this::meanRefused);
        test("CURVE: how many PAIRS there are with FARTHEST v.", this::curve);
        test("CURVE. -1 (0 .. 20).", this::curveRefused);
    }

    // ---- A GAME

    private void gameIs(NineMilesOff x, int pair, int far) {
        due("the pair", x.game(0), pair);
        due("the least FAR", x.game(1), far);
    }

    private static NineMilesOff line(int his, int hers) {
        return Lands.put(Lands.only(0, 20, Lands.LINE), his, hers);
    }

    private void waysThatCanBeGone() {
        gameIs(Lands.put(Lands.only(0, 20, 7, 28), 7, 28), 0, 6);
        gameIs(line(0, 4), 33, 4);
        gameIs(line(0, 5), 30, 4);
        NineMilesOff x = line(0, 4);
        Lands.lay(x, 5, 0, 5);
        gameIs(x, 30, 3);
        Lands.lay(x, 5, 0, 1);
        gameIs(x, 0, 4);
        Lands.lay(x, 5, 0, 0, 4);
        gameIs(x, 0, 4);
        Lands.lay(x, 0, 0, 1, 5);
        gameIs(x, 33, 4);
    }

    private void firstPair() {
        gameIs(Lands.put(Lands.plains(0, 20), 35, 0), 10, 9);
        gameIs(Lands.put(Lands.plains(0, 20), 0, 35), 30, 9);
        gameIs(Lands.put(Lands.plains(0, 20), 7, 28), 33, 6);
        gameIs(Lands.put(Lands.plains(0, 20), 28, 7), 11, 6);
        NineMilesOff x = Lands.put(Lands.only(0, 20, 0, 6, 4), 0, 4);
        Lands.lay(x, 2, 0, 0);
        gameIs(x, 0, 5);
    }

    private void neitherDoesBetter() {
        gameIs(Lands.put(Lands.only(0, 20, 0, 1, 2), 1, 1), -4, 1);
        gameIs(Lands.put(Lands.only(0, 20, 0, 1), 0, 0), -4, 1);
        gameIs(Lands.put(Lands.only(0, 20, 0, 1), 0, 1), -4, 1);
        gameIs(Lands.put(Lands.only(0, 20, 7), 7, 7), 0, 0);
        gameIs(line(2, 3), 33, 1);
        gameIs(line(2, 4), 33, 2);
    }

    private void leastFar() {
        gameIs(Lands.put(Lands.only(0, 20, 0, 1, 2, 3), 1, 2), 33, 1);
        gameIs(line(1, 0), -4, 1);
        NineMilesOff x = Lands.put(Lands.only(0, 20, 0, 1, 4), 0, 4);
        gameIs(x, 30, 3);
        Lands.lay(x, 3, 9, 1);
        gameIs(x, 0, 4);
        Lands.lay(x, 3, 9, 4);
        gameIs(x, 30, 3);
        x.set(0, 20);
        x.set(1, 0);
        gameIs(x, 30, 3);
        due("no DAY goes", x.count(2), 0);
    }

    private void gameRefused() {
        for (int what : new int[] {-1, 2, Lands.LEAST, Lands.MOST}) {
            refused("game(" + what + ")", x -> x.game(what), -1);
        }
        for (int what = 0; what < 2; what++) {
            int asked = what;
            refused(Lands::nobody, "game of nobody", x -> x.game(asked), -3);
            refused(Lands::heAlone, "game without HER", x -> x.game(asked), -3);
            refused(Lands::sheAlone, "game without HIM", x -> x.game(asked), -3);
        }
        gameIs(Lands.lastDay(line(0, 4)), 33, 4);
    }

    // ---- SNOW

    private void snowIs(NineMilesOff x, int from, int to, long above, long below) {
        due("from " + from + " to " + to + ", above", x.snow(from, to, 0), above);
        due("from " + from + " to " + to + ", below", x.snow(from, to, 1), below);
        due("and back, above", x.snow(to, from, 0), above);
        due("and back, below", x.snow(to, from, 1), below);
    }

    private void byItself() {
        NineMilesOff x = Lands.only(0, 20, 0, 1, 2, 6, 8, 12, 13, 14);
        Lands.lay(x, 7, 5, 1, 13);
        snowIs(x, 0, 2, 3, 4);
        Lands.lay(x, 7, 9, 1);
        snowIs(x, 0, 2, 11, 20);
        Lands.lay(x, 5, 0, 13);
        snowIs(x, 0, 2, 1, 10);
        Lands.lay(x, 3, 0, 6);
        snowIs(x, 0, 2, 1, 10);
        snowIs(x, 0, 12, 1, 2);
        Lands.lay(x, 3, 0, 0);
        snowIs(x, 0, 12, 1, 4);
        x.set(2, 1);
        snowIs(x, 0, 12, 1, 4);
        x = Lands.only(0, 20, 0, 1);
        x.set(2, 1);
        snowIs(x, 0, 2, 0, 1);
    }

    private void bothPassable() {
        NineMilesOff x = Lands.plains(0, 20);
        Lands.lay(x, 7, 3, 0);
        Lands.lay(x, 2, 0, 35);
        snowIs(x, 0, 35, 63, 100);
        snowIs(x, 0, 0, 7, 10);
        snowIs(x, 35, 35, 9, 10);
        snowIs(x, 0, 20, 7, 10);
        snowIs(x, 1, 20, 1, 1);
        snowIs(x, 20, 20, 1, 1);
        Lands.lay(x, 5, 0, 35);
        snowIs(x, 0, 35, 0, 1);
        snowIs(x, 35, 35, 0, 1);
        snowIs(x, 35, 20, 0, 1);
    }

    private void leastTerms() {
        NineMilesOff x = Lands.only(0, 20, 0, 1, 2);
        snowIs(x, 0, 2, 1, 1);
        snowIs(x, 0, 3, 0, 1);
        int[][] woods = {{1, 9, 10}, {2, 4, 5}, {3, 7, 10}, {4, 3, 5}, {5, 1, 2}, {6, 2, 5}, {7, 3, 10}, {8, 1, 5}, {9, 1, 10}};
        for (int[] wood : woods) {
            Lands.lay(x, 7, wood[0], 1);
            snowIs(x, 0, 2, wood[1], wood[2]);
        }
        Lands.lay(x, 7, 0, 1);
        snowIs(x, 0, 2, 1, 1);
        x = Lands.only(0, 20, Lands.LINE);
        Lands.lay(x, 7, 9, 0, 1, 2, 3, 4, 5);
        snowIs(x, 0, 5, 1, 1000000);
    }

    private void moreThanEight() {
        NineMilesOff x = Lands.plains(0, 20);
        Lands.lay(x, 7, 9, 0, 1, 2, 3, 4, 5, 6, 12);
        snowIs(x, 0, 1, 1, 100);
        snowIs(x, 34, 35, 1, 1);
        Lands.lay(x, 7, 0, 35);
        Lands.lay(x, 5, 0, 34, 33);
        Lands.lay(x, 1, 9, 32);
        snowIs(x, 0, 1, 1, 100);
        for (int[] one : new int[][] {{7, 1}, {7, 9}, {2, 0}, {3, 0}, {4, 9}, {6, 0}}) {
            Lands.lay(x, one[0], one[1], 35);
            for (int part = 0; part < 2; part++) {
                due("nine", x.snow(0, 1, part), -1000000003L);
                due("nine, elsewhere", x.snow(20, 20, part), -1000000003L);
            }
        }
        Lands.lay(x, 0, 0, 35);
        snowIs(x, 0, 1, 1, 100);
        Lands.lay(x, 7, 9, 20, 21, 22, 23, 24, 25, 26, 27, 28, 29);
        due("eighteen", x.snow(0, 1, 0), -1000000003L);
        x = Lands.only(0, 20, 0, 1, 2, 3, 4, 5, 11, 17);
        Lands.lay(x, 7, 9, 0, 1, 2, 3, 4, 5, 11, 17);
        snowIs(x, 0, 17, 1, 100000000);
    }

    private void snowRefused() {
        for (int part : new int[] {-1, 2, Lands.LEAST, Lands.MOST}) {
            refused("snow(0, 1, " + part + ")", x -> x.snow(0, 1, part), -1000000001L);
        }
        for (int cell : new int[] {-1, 36, Lands.LEAST, Lands.MOST}) {
            refused("snow(" + cell + ", 0, 0)", x -> x.snow(cell, 0, 0), -1000000001L);
            refused("snow(0, " + cell + ", 1)", x -> x.snow(0, cell, 1), -1000000001L);
        }
        refused(ChanceSentences::deepSnow, "snow with nine", x -> x.snow(0, 1, 0), -1000000003L);
        due("of nobody", Lands.nobody().snow(0, 1, 0), 1);
    }

    static NineMilesOff deepSnow() {
        NineMilesOff x = Lands.rich();
        for (int cell = 26; cell < 35; cell++) {
            x.lays(3, cell);
        }
        return x;
    }

    // ---- MEAN, CURVE

    private void meanIs(NineMilesOff x, long above, long below) {
        due("above", x.mean(0), above);
        due("below", x.mean(1), below);
    }

    private void mean() {
        meanIs(Lands.only(0, 20, 0, 1), 1, 2);
        meanIs(Lands.only(0, 20, 0, 1, 2), 8, 9);
        meanIs(Lands.only(1, 20, 0, 1, 2), 4, 3);
        meanIs(Lands.only(0, 1, 0, 1, 2), 4, 7);
        meanIs(Lands.only(2, 2, 0, 1, 2), 2, 1);
        meanIs(Lands.plains(10, 10), 10, 1);
        meanIs(Lands.plains(0, 20), 35, 9);
        meanIs(Lands.plains(0, 0), 0, 1);
        NineMilesOff x = Lands.only(0, 20, 0, 1);
        Lands.lay(x, 3, 9, 1);
        meanIs(x, 3, 1);
        meanIs(Lands.only(0, 20, 0), 0, 1);
    }

    private void meanOfNone() {
        meanIs(Lands.plains(11, 20), 0, 1);
        meanIs(Lands.plains(4, 3), 0, 1);
        meanIs(Lands.only(0, 20), 0, 1);
        meanIs(Lands.only(1, 20, 14), 0, 1);
    }

    private void meanRefused() {
        for (int part : new int[] {-1, 2, Lands.LEAST, Lands.MOST}) {
            refused("mean(" + part + ")", x -> x.mean(part), -1000000001L);
            due("mean(" + part + ") of no PAIRS", Lands.plains(11, 20).mean(part), -1000000001L);
        }
        meanIs(Lands.plains(10, 10), 10, 1);
    }

    private void curve() {
        NineMilesOff x = Lands.only(0, 2, Lands.LINE);
        int[] many = {6, 16, 24, 30, 34, 36, 36};
        for (int v = 0; v < many.length; v++) {
            due("curve(" + v + ")", x.curve(v), many[v]);
        }
        due("curve(20)", x.curve(20), 36);
        due("FARTHEST stays", x.count(6), 2);
        x.set(0, 3);
        int[] above = {0, 0, 0, 6, 10, 12, 12};
        for (int v = 0; v < above.length; v++) {
            due("with NEAREST 3, curve(" + v + ")", x.curve(v), above[v]);
        }
        due("none is OPEN", Lands.only(0, 20).curve(20), 0);
    }

    private void curveRefused() {
        for (int v : new int[] {-1, 21, Lands.LEAST, Lands.MOST}) {
            refused("curve(" + v + ")", x -> x.curve(v), -1);
        }
        due("curve(0)", Lands.plains(0, 6).curve(0), 36);
        due("curve(20)", Lands.plains(0, 6).curve(20), 1296);
    }
}
