import java.util.Arrays;

/** Each promise of the document by itself: ordinary inputs, the edges that it names, and REFUSALS in their order. */
public final class PromiseTest {
    private static int wrong;
    private static int promise;

    private PromiseTest() { }

    private static void due(String call, long got, long want) {
        if (got != want) {
            wrong++;
            System.out.println("promise " + promise + ": " + call + " answered " + got + ", due is " + want);
        }
    }

    private static void on(int number) {
        promise = number;
    }

    public static void main(String[] args) {
        newObject();
        land();
        landFaults();
        landStatements();
        landOver();
        ground();
        lays();
        stands();
        set();
        go();
        goEdges();
        goneClosed();
        far();
        steps();
        pairs();
        islands();
        island();
        middle();
        see();
        way();
        hinders();
        hindersEdges();
        needs();
        within();
        ways();
        rounds();
        late();
        hisWay();
        letter();
        third();
        game();
        snow();
        snowEdges();
        mean();
        curve();
        judge();
        judgeSkips();
        seeds();
        image();
        restore();
        count();
        keep();
        row();
        put();
        element();
        copy();
        cost();
        toss();
        System.out.println(wrong == 0 ? "PromiseTest: all answers are as due" : wrong + " answers are not as due");
        if (wrong != 0) {
            System.exit(1);
        }
    }

    // ---- the land as told

    private static void newObject() {
        on(1);
        NineMilesOff x = new NineMilesOff();
        for (int cell = 0; cell < 36; cell++) {
            due("ground(" + cell + ", 0)", x.ground(cell, 0), 0);
            due("ground(" + cell + ", 1)", x.ground(cell, 1), 0);
            due("ground(" + cell + ", 3)", x.ground(cell, 3), 1);
        }
        int[] counts = {-4, -4, 0, 0, 0, 3, 6, 0, 36};
        for (int what = 0; what < counts.length; what++) {
            due("count(" + what + ")", x.count(what), counts[what]);
        }
        for (int d = 0; d < 8; d++) {
            due("cost(" + d + ")", x.cost(d), -11);
            due("put(" + d + ", 0, 0)", x.put(d, 0, 0), -11);
        }
        due("restore()", x.restore(), -3);
    }

    private static void land() {
        on(2);
        NineMilesOff x = new NineMilesOff();
        due("land", Lands.tell(x, "g3901;n0210;w1;h00;s05;"), 5);
        due("ground(1, 0)", x.ground(1, 0), 3);
        due("ground(1, 1)", x.ground(1, 1), 9);
        due("NEAREST", x.count(5), 2);
        due("FARTHEST", x.count(6), 10);
        due("WINTER", x.count(7), 1);
        due("HE", x.count(0), 0);
        due("SHE", x.count(1), 5);
        due("the text stays", x.element(7, 0), 'g');
        due("ways", Lands.tell(x, "d02;d42;d13;"), 3);
        due("HE gone", x.count(0), 0);
        due("SHE gone", x.count(1), 4);
        due("DAY", x.count(2), 3);
        due("the rest stays", x.ground(1, 0), 3);
        due("one twice", Lands.tell(x, "w0;w0;w0;"), 3);
        due("WINTER off", x.count(7), 0);
        due("greatest", Lands.tell(x, "g7935;h35;s35;n2020;"), 4);
        due("ground(35, 0)", x.ground(35, 0), 7);
        due("stopped by text", Lands.tell(x, "d00;n0000;d01;"), 3);
        due("STOPPED", x.count(3), 1);
        due("PAIN", x.count(4), 1);

        due("no shelf", x.land(-1), -1);
        due("no shelf", x.land(8), -1);
        due("nothing held", x.land(3), -11);
        x.keep(3, 1, 0, 0);
        due("a ground", x.land(3), -12);
        x.row(3, 1, 0);
        due("ints", x.land(3), -12);
        x.row(3, 2, 5);
        due("longs", x.land(3), -12);
    }

    private static void landFaults() {
        on(2);
        due("empty", Lands.told(""), -1000);
        due("no letter", Lands.told("x"), -1000);
        due("no letter", Lands.told(";"), -1000);
        due("no letter", Lands.told("0"), -1000);
        due("capital", Lands.told("W1;"), -1000);
        String[] whole = {"g0000;", "h00;", "s00;", "n0306;", "w0;", "d00;"};
        for (String statement : whole) {
            for (int end = 1; end < statement.length(); end++) {
                due("lacks " + statement, Lands.told(statement.substring(0, end)), -1000 - end);
                char[] signs = statement.toCharArray();
                for (char sign : new char[] {'/', ':', 'w', ' ', (char) 176, 0}) {
                    char[] other = signs.clone();
                    other[end] = sign;
                    due("wrong byte in " + new String(other), Lands.told(new String(other)), -1000 - end);
                }
            }
            char[] early = statement.toCharArray();
            early[1] = ';';
            due("ends early " + new String(early), Lands.told(new String(early)), -1001);
        }
        due("behind the end", Lands.told("w0;;"), -1003);
        due("behind the end", Lands.told("w0; "), -1003);
        due("too many digits", Lands.told("w00;"), -1002);
        due("too many digits", Lands.told("h000;"), -1003);
        due("kind 1 before kind 2", Lands.told("h99;w0"), -1006);
        due("kind 1 before kind 2", Lands.told("d00;?"), -1004);

        NineMilesOff x = new NineMilesOff();
        due("nothing comes", Lands.tell(x, "w1;h03;w"), -1008);
        due("WINTER", x.count(7), 0);
        due("HE", x.count(0), -4);
        due("nothing comes", Lands.tell(x, "g5003;n0102;w1;h02;s02;d00;w2;"), -2027);
        due("ground", x.ground(3, 0), 0);
        due("NEAREST", x.count(5), 3);
        due("FARTHEST", x.count(6), 6);
        due("WINTER", x.count(7), 0);
        due("HE", x.count(0), -4);
        due("SHE", x.count(1), -4);
        due("DAY", x.count(2), 0);
        due("STOPPED", x.count(3), 0);
    }

    private static void landStatements() {
        on(2);
        due("kind 7", Lands.told("g7000;"), 1);
        due("kind 8", Lands.told("g8000;"), -2000);
        due("kind 9", Lands.told("g9000;"), -2000);
        due("cell 35", Lands.told("g0035;"), 1);
        due("cell 36", Lands.told("g0036;"), -2000);
        due("cell 99", Lands.told("g0099;"), -2000);
        due("he on 36", Lands.told("w0;h36;"), -2003);
        due("she on 36", Lands.told("w0;s36;"), -2003);
        due("nearest 20", Lands.told("n2000;"), 1);
        due("nearest 21", Lands.told("n2100;"), -2000);
        due("farthest 20", Lands.told("n0020;"), 1);
        due("farthest 21", Lands.told("n0021;"), -2000);
        due("winter 2", Lands.told("w2;"), -2000);
        due("winter 9", Lands.told("w9;"), -2000);
        due("not open", Lands.told("g5003;h03;"), -2006);
        due("not open", Lands.told("g5003;s03;"), -2006);
        due("open by winter", Lands.told("g5003;w1;h03;s03;"), 4);
        due("closed by winter", Lands.told("g3003;h03;w1;s03;"), -2013);
        due("nobody", Lands.told("d00;"), -2000);
        due("she is nobody", Lands.told("h00;d00;"), -2004);
        due("he is nobody", Lands.told("s00;d00;"), -2004);
        due("way 5 of his", Lands.told("h00;s00;d50;"), -2008);
        due("way 5 of hers", Lands.told("h00;s00;d05;"), -2008);
        due("way off the square", Lands.told("h00;s00;d10;"), -2008);
        due("way onto a river", Lands.told("h00;s00;g5001;d03;"), -2014);
        due("first that can't", Lands.told("h00;s00;d44;d20;d01;"), -2012);
    }

    private static void landOver() {
        on(2);
        NineMilesOff x = Lands.plains(1, 0);
        Lands.put(x, 0, 0);
        Lands.write(x, 0, "d00;d00;d00;d00;d00;d00;d00;d00;d00;d00;d00;d00;d00;d00;d00;d00;d00;d00;d00;d00;d00;d00;d00;d00;d00;");
        for (int i = 0; i < 39; i++) {
            due("25 days", x.land(0), 25);
        }
        due("day 1000", x.land(0), -2096);
        due("DAY", x.count(2), 975);
        Lands.write(x, 1, "d00;d00;d00;d00;d00;d00;d00;d00;d00;d00;d00;d00;d00;d00;d00;d00;d00;d00;d00;d00;d00;d00;d00;d04;");
        due("day 999", x.land(1), 24);
        due("DAY", x.count(2), 999);
        due("STOPPED", x.count(3), 998);
        due("PAIN", x.count(4), 1);
        due("beyond", Lands.tell(x, "w1;d00;"), -2003);
        due("WINTER", x.count(7), 0);
        on(7);
        due("go(0, 0)", x.go(0, 0), -3);
        due("go(5, 0)", x.go(5, 0), -1);
        due("STOPPED", x.count(3), 998);
        on(30);
        due("seeds(20, 1, 0) and PAIN are told on the last DAY, too",
            x.seeds(20, 1, 0) + x.seeds(20, 1, 1), 400);
        on(31);
        due("image()", x.image(), 999);
    }

    private static void ground() {
        on(3);
        int[][] heights = {{0, 0, 0}, {0, 0, 0}, {2, 2, 2}, {2, 6, 11}, {1, 3, 5}, {0, 0, 0}, {1, 1, 1}, {0, 0, 0}};
        int[][] chances = {{10, 10, 10}, {10, 10, 10}, {9, 9, 9}, {5, 5, 5}, {5, 6, 8}, {0, 0, 0}, {8, 8, 8}, {10, 6, 1}};
        int[] figures = {0, 4, 9};
        NineMilesOff x = new NineMilesOff();
        for (int kind = 0; kind < 8; kind++) {
            for (int f = 0; f < 3; f++) {
                Lands.lay(x, kind, figures[f], 35);
                String of = " of kind " + kind + ", figure " + figures[f];
                due("KIND" + of, x.ground(35, 0), kind);
                due("FIGURE" + of, x.ground(35, 1), figures[f]);
                due("HEIGHT" + of, x.ground(35, 2), heights[kind][f]);
                due("OPEN" + of, x.ground(35, 3), kind == 5 ? 0 : 1);
                due("CHANCE" + of, x.ground(35, 4), chances[kind][f]);
                x.set(2, 1);
                due("OPEN in WINTER" + of, x.ground(35, 3), kind == 3 || kind == 4 && f == 2 ? 0 : 1);
                x.set(2, 0);
            }
        }
        x.set(2, 1);
        Lands.lay(x, 4, 5, 0);
        due("a PASS with 5 in WINTER", x.ground(0, 3), 0);
        due("CHANCE of a PASS with 5", x.ground(0, 4), 6);
        due("HEIGHT of a PASS with 5", x.ground(0, 2), 3);
        due("ground(-1, 0)", x.ground(-1, 0), -1);
        due("ground(36, 0)", x.ground(36, 0), -1);
        due("ground(0, -1)", x.ground(0, -1), -1);
        due("ground(0, 5)", x.ground(0, 5), -1);
    }

    private static void lays() {
        on(4);
        NineMilesOff x = new NineMilesOff();
        x.keep(0, 1, 3, 7);
        due("lays(0, 0)", x.lays(0, 0), 0);
        due("lays(0, 35)", x.lays(0, 35), 0);
        due("KIND", x.ground(35, 0), 3);
        due("FIGURE", x.ground(35, 1), 7);
        due("it stays on the shelf", x.cost(0), 8);
        x.keep(0, 1, 6, 2);
        due("laid ones stay", x.ground(0, 0), 3);
        due("lays(0, 35) anew", x.lays(0, 35), 3);
        due("lays(0, 35) once more", x.lays(0, 35), 6);
        due("FIGURE", x.ground(35, 1), 2);
        x.row(1, 0, 1);
        due("no shelf", x.lays(8, 0), -1);
        due("no shelf", x.lays(-1, 0), -1);
        due("no cell ahead of nothing held", x.lays(2, 36), -1);
        due("no cell", x.lays(0, -1), -1);
        due("nothing held", x.lays(2, 0), -11);
        due("a row", x.lays(1, 0), -12);
        due("nothing changed", x.ground(0, 0), 3);
    }

    private static void stands() {
        on(5);
        NineMilesOff x = new NineMilesOff();
        Lands.lay(x, 5, 0, 7);
        due("stands(0, 0)", x.stands(0, 0), -4);
        due("stands(1, 35)", x.stands(1, 35), -4);
        due("stands(0, 35)", x.stands(0, 35), 0);
        due("stands(1, 1)", x.stands(1, 1), 35);
        due("stands(0, 7)", x.stands(0, 7), -3);
        due("HE", x.count(0), 35);
        due("SHE", x.count(1), 1);
        due("stands(2, 0)", x.stands(2, 0), -1);
        due("stands(-1, 0)", x.stands(-1, 0), -1);
        due("stands(0, -1)", x.stands(0, -1), -1);
        due("stands(1, 36)", x.stands(1, 36), -1);
        due("stands(2, 7)", x.stands(2, 7), -1);
        due("no DAY goes", x.count(2), 0);
        x.set(2, 1);
        due("stands(0, 7) in WINTER", x.stands(0, 7), 35);
    }

    private static void set() {
        on(6);
        NineMilesOff x = new NineMilesOff();
        due("set(0, 20)", x.set(0, 20), 3);
        due("set(0, 0)", x.set(0, 0), 20);
        due("set(1, 0)", x.set(1, 0), 6);
        due("set(1, 20)", x.set(1, 20), 0);
        due("set(2, 1)", x.set(2, 1), 0);
        due("set(2, 0)", x.set(2, 0), 1);
        for (int what = 0; what < 2; what++) {
            due("set(" + what + ", 21)", x.set(what, 21), -1);
            due("set(" + what + ", -1)", x.set(what, -1), -1);
        }
        due("set(2, 2)", x.set(2, 2), -1);
        due("set(2, -1)", x.set(2, -1), -1);
        due("set(3, 0)", x.set(3, 0), -1);
        due("set(-1, 0)", x.set(-1, 0), -1);
        due("NEAREST", x.count(5), 0);
        due("FARTHEST", x.count(6), 20);
        due("WINTER", x.count(7), 0);
    }

    private static void go() {
        on(7);
        NineMilesOff x = Lands.put(Lands.plains(2, 4), 14, 15);
        due("go(1, 4)", x.go(1, 4), 3);
        due("HE up", x.count(0), 8);
        due("SHE down", x.count(1), 21);
        due("go(2, 3)", x.go(2, 3), 5);
        due("HE left", x.count(0), 7);
        due("SHE right", x.count(1), 22);
        due("go(0, 1)", x.go(0, 1), 4);
        due("go(3, 2)", x.go(3, 2), 2);
        due("go(3, 0)", x.go(3, 0), 1);
        due("DAY", x.count(2), 5);
        due("STOPPED", x.count(3), 1);
        due("PAIN", x.count(4), 1);
        due("go(-1, 0)", x.go(-1, 0), -1);
        due("go(5, 0)", x.go(5, 0), -1);
        due("go(0, -1)", x.go(0, -1), -1);
        due("go(0, 5)", x.go(0, 5), -1);
        due("DAY stays", x.count(2), 5);
        x.set(0, 9);
        x.set(1, 0);
        due("both on a DAY", x.go(0, 0), 1);
        due("STOPPED", x.count(3), 2);
        due("PAIN", x.count(4), 2);
    }

    private static void goEdges() {
        on(7);
        NineMilesOff x = new NineMilesOff();
        due("nobody", x.go(0, 0), -3);
        due("nobody, no such way", x.go(0, 5), -1);
        x.stands(0, 0);
        due("she is nowhere", x.go(0, 0), -3);
        x = new NineMilesOff();
        x.stands(1, 0);
        due("he is nowhere", x.go(0, 0), -3);
        int[][] edges = {{0, 1, 2}, {5, 1, 3}, {30, 2, 4}, {35, 3, 4}};
        for (int[] edge : edges) {
            Lands.put(x, edge[0], edge[0]);
            for (int way = 1; way <= 4; way++) {
                boolean off = way == edge[1] || way == edge[2];
                due("his way " + way + " from " + edge[0], x.go(way, 0), off ? -3 : 1);
                Lands.put(x, edge[0], edge[0]);
                due("her way " + way + " from " + edge[0], x.go(0, way), off ? -3 : 1);
                Lands.put(x, edge[0], edge[0]);
            }
        }
        due("DAY", x.count(2), 16);
        Lands.lay(x, 5, 0, 29);
        due("onto a river", x.go(1, 0), -3);
        due("onto a river", x.go(0, 1), -3);
        due("one can, one can not", x.go(2, 1), -3);
        due("HE", x.count(0), 35);
        due("DAY", x.count(2), 16);
    }

    private static void goneClosed() {
        on(7);
        NineMilesOff x = Lands.put(Lands.plains(0, 20), 0, 1);
        Lands.lay(x, 5, 0, 0, 1);
        due("both stay on closed ones", x.go(0, 0), 1);
        due("not onto a closed one", x.go(3, 0), -3);
        due("not back", x.go(0, 2), -3);
        due("both go off", x.go(4, 4), 1);
        due("HE", x.count(0), 6);
        due("not back", x.go(1, 0), -3);
        due("DAY", x.count(2), 2);
        due("STOPPED", x.count(3), 0);
    }

    private static void far() {
        on(8);
        NineMilesOff x = new NineMilesOff();
        due("far(0, 35)", x.far(0, 35), 10);
        due("far(5, 30)", x.far(5, 30), 10);
        due("far(7, 7)", x.far(7, 7), 0);
        due("far(5, 6)", x.far(5, 6), 6);
        Lands.lay(x, 3, 9, 8);
        due("far(8, 9)", x.far(8, 9), 6);
        due("far(9, 8)", x.far(9, 8), 6);
        Lands.lay(x, 6, 0, 9);
        due("cut, 10 unlike", x.far(8, 9), 6);
        Lands.lay(x, 2, 0, 9);
        due("cut, 9 unlike", x.far(8, 9), 5);
        Lands.lay(x, 6, 0, 10);
        due("cut, 1 unlike", x.far(10, 11), 1);
        Lands.lay(x, 5, 0, 11);
        due("closed ones, too", x.far(10, 11), 1);
        due("far(-1, 0)", x.far(-1, 0), -1);
        due("far(36, 0)", x.far(36, 0), -1);
        due("far(0, -1)", x.far(0, -1), -1);
        due("far(0, 36)", x.far(0, 36), -1);
    }

    // ---- the land

    private static void steps() {
        on(9);
        NineMilesOff x = new NineMilesOff();
        for (int cell = 0; cell < 36; cell++) {
            due("steps(14, " + cell + ")", x.steps(14, cell), Lands.apart(14, cell));
        }
        x = Lands.only(0, 20, 0, 6, 12, 13, 14, 8, 2, 3, 4, 10, 16, 22, 28, 27, 26, 25, 24, 35);
        due("round", x.steps(0, 24), 16);
        due("back", x.steps(24, 0), 16);
        due("to itself", x.steps(24, 24), 0);
        due("cut off", x.steps(0, 35), -4);
        due("from a closed one", x.steps(1, 0), -4);
        due("to a closed one", x.steps(0, 1), -4);
        due("closed, to itself", x.steps(1, 1), -4);
        due("steps(-1, 0)", x.steps(-1, 0), -1);
        due("steps(0, 36)", x.steps(0, 36), -1);
        due("not from the end of a row to the next one's begin", Lands.only(0, 20, 5, 6).steps(5, 6), -4);
    }

    private static void pairs() {
        on(10);
        NineMilesOff x = new NineMilesOff();
        int many = 0;
        for (int his = 0; his < 36; his++) {
            for (int hers = 0; hers < 36; hers++) {
                if (Lands.apart(his, hers) >= 3 && Lands.apart(his, hers) <= 6) {
                    if (many % 40 == 0) {
                        due("pairs(" + many + ")", x.pairs(many), 100 * his + hers);
                    }
                    many++;
                }
            }
        }
        due("pairs(-1)", x.pairs(-1), many);
        due("pairs(many)", x.pairs(many), -4);
        due("pairs(MOST)", x.pairs(Lands.MOST), -4);
        due("pairs(-2)", x.pairs(-2), -1);
        due("pairs(LEAST)", x.pairs(Lands.LEAST), -1);
        x = Lands.only(0, 1, 0, 1, 3);
        int[] pairs = {0, 1, 100, 101, 303};
        for (int i = 0; i < pairs.length; i++) {
            due("pairs(" + i + ")", x.pairs(i), pairs[i]);
        }
        due("one twice", x.pairs(-1), 5);
        x.set(0, 1);
        due("not below NEAREST", x.pairs(-1), 2);
        x.set(0, 2);
        due("none", x.pairs(0), -4);
        due("none", x.pairs(-1), 0);
    }

    private static void islands() {
        on(11);
        due("one", new NineMilesOff().islands(), 1);
        due("none", Lands.only(0, 20).islands(), 0);
        due("two, row's end beside row's begin", Lands.only(0, 20, 5, 6).islands(), 2);
        NineMilesOff x = Lands.only(0, 20, 0, 7, 14, 21, 28, 35, 34);
        due("five", x.islands(), 5);
        x.set(2, 1);
        due("all by WINTER", x.islands(), 1);
    }

    private static void island() {
        on(12);
        NineMilesOff x = Lands.only(0, 20, 0, 1, 2, 8, 14, 35, 30);
        due("island(0)", x.island(0), 5);
        due("island(14)", x.island(14), 5);
        due("island(35)", x.island(35), 1);
        due("island(3)", x.island(3), -3);
        due("island(-1)", x.island(-1), -1);
        due("island(36)", x.island(36), -1);
        due("all", new NineMilesOff().island(20), 36);
    }

    private static void middle() {
        on(13);
        NineMilesOff x = new NineMilesOff();
        due("middle(0)", x.middle(0), 14);
        due("middle(1)", x.middle(1), 6);
        due("middle(2)", x.middle(2), -1);
        due("middle(-1)", x.middle(-1), -1);
        x = Lands.only(0, 20, 0, 1, 30, 31, 32, 33, 34);
        due("of the largest", x.middle(0), 32);
        due("steps", x.middle(1), 2);
        x = Lands.only(0, 20, 2, 3, 4, 5, 30, 31, 32, 33);
        due("of two as large that with the least cell, of two the least", x.middle(0), 3);
        due("steps", x.middle(1), 2);
        x = Lands.only(0, 20, 20);
        due("one alone", x.middle(0), 20);
        due("steps", x.middle(1), 0);
        x = Lands.only(0, 20, 0);
        due("the first alone", x.middle(0), 0);
        due("steps", x.middle(1), 0);
        x = Lands.only(0, 20);
        due("none", x.middle(0), -4);
        due("none", x.middle(1), -4);
    }

    // ---- both

    private static void see() {
        on(14);
        NineMilesOff x = Lands.put(Lands.only(1, 2, 0, 1, 2, 3, 4, 5), 0, 1);
        due("where they are", x.see(0, 1), 0);
        due("they change", x.see(1, 0), 1);
        due("along", x.see(3, 4), 3);
        due("along", x.see(4, 5), 4);
        due("too far", x.see(0, 3), -4);
        due("too near", x.see(1, 1), -4);
        due("closed", x.see(0, 6), -4);
        due("no such cell", x.see(36, 0), -1);
        due("no such cell", x.see(0, -1), -1);
        x.set(0, 2);
        due("not a pair now", x.see(0, 2), -4);
        due("not a pair now", x.see(0, 1), -4);
        x.set(0, 1);
        Lands.lay(x, 5, 0, 0);
        due("he is on a closed one now", x.see(1, 2), -4);
        x = new NineMilesOff();
        due("nobody, no cell", x.see(36, 0), -1);
        due("nobody", x.see(0, 3), -3);
        x.stands(0, 0);
        due("she is nowhere", x.see(0, 3), -3);
        x = new NineMilesOff();
        x.stands(1, 0);
        due("he is nowhere", x.see(0, 3), -3);
        x = Lands.put(Lands.only(3, 3, 0, 1, 2, 3, 4, 5), 0, 3);
        due("just so far", x.see(2, 5), 2);
        due("they can not come by each other", x.see(5, 2), -4);
        x = Lands.put(Lands.only(0, 1, 0, 1, 2, 8, 14, 13, 12, 6), 0, 0);
        due("round", x.see(14, 14), 4);
        due("steps would be 3", x.see(12, 14), -4);
    }

    private static void way() {
        on(15);
        NineMilesOff x = Lands.put(Lands.plains(1, 6), 1, 2);
        int[] pairs = {102, 3, 4, 105};
        for (int n = 0; n < pairs.length; n++) {
            due("way(1, 5, " + n + ")", x.way(1, 5, n), pairs[n]);
        }
        due("beyond", x.way(1, 5, 4), -4);
        due("beyond", x.way(1, 5, Lands.MOST), -4);
        due("now", x.way(1, 2, 0), 102);
        due("beyond now", x.way(1, 2, 1), -4);
        due("none", x.way(1, 1, 0), -4);
        due("below 0", x.way(1, 5, -1), -1);
        due("no cell", x.way(36, 5, 0), -1);
        due("no cell", x.way(1, -1, 0), -1);
        x = Lands.put(Lands.plains(0, 20), 35, 2);
        int[] home = {3502, 2901, 2300, 1700, 1100, 500};
        for (int n = 0; n < home.length; n++) {
            due("way(5, 0, " + n + ")", x.way(5, 0, n), home[n]);
        }
        x = new NineMilesOff();
        due("nobody, below 0", x.way(1, 5, -1), -1);
        due("nobody", x.way(1, 5, 0), -3);
        x = Lands.put(Lands.plains(0, 20), 14, 14);
        int[] least = {1414, 808, 202, 101, 2};
        x.set(1, 3);
        for (int n = 0; n < least.length; n++) {
            due("way(0, 2, " + n + ")", x.way(0, 2, n), x.see(0, 2) == 4 ? least[n] : -99);
        }
    }

    private static void hinders() {
        on(16);
        NineMilesOff x = Lands.put(Lands.only(0, 3, 0, 1, 3, 4, 5), 0, 1);
        due("the one between", x.hinders(3, 4), 2);
        due("it can be", x.hinders(1, 0), -4);
        due("it can be, by each other", Lands.put(Lands.only(1, 3, 0, 1, 2, 4), 0, 1).hinders(2, 1), -4);
        due("the first cell", Lands.put(Lands.only(0, 2, 1, 6), 1, 1).hinders(6, 6), 0);
        due("no such cell", x.hinders(0, 36), -1);
        due("no such cell", x.hinders(-1, 0), -1);
        Lands.lay(x, 5, 0, 4);
        due("two lack", x.hinders(5, 5), -4);
        due("the land stays", x.count(8), 4);
        x = new NineMilesOff();
        due("nobody", x.hinders(0, 3), -3);
        due("nobody, no cell", x.hinders(0, 36), -1);
        x = Lands.plains(0, 20);
        Lands.lay(x, 5, 0, 2, 8, 14, 20, 26, 32);
        Lands.put(x, 12, 0);
        due("soonest", x.hinders(15, 0), 14);
        Lands.put(x, 30, 0);
        due("soonest", x.hinders(33, 0), 32);
        Lands.put(x, 6, 0);
        due("of several the least", x.hinders(15, 0), 8);
        due("the goal itself", x.hinders(14, 0), 14);
        due("hers, too", x.hinders(6, 26), 26);
        due("both goals are closed", x.hinders(14, 20), -4);
    }

    private static void hindersEdges() {
        on(16);
        NineMilesOff x = Lands.put(Lands.plains(0, 20), 7, 0);
        Lands.lay(x, 5, 0, 7);
        due("he stands on it", x.hinders(8, 0), 7);
        due("stay there", x.hinders(7, 0), 7);
        Lands.lay(x, 5, 0, 0);
        due("both stand on closed ones", x.hinders(8, 1), -4);
        x = Lands.put(Lands.plains(1, 5), 1, 0);
        x.set(2, 1);
        Lands.lay(x, 3, 9, 2, 8, 14, 20, 26, 32);
        due("its HEIGHT stays", x.hinders(3, 1), -4);
        x.set(1, 6);
        due("its HEIGHT stays", x.hinders(3, 1), 2);
        x = Lands.put(Lands.only(0, 1, 0, 1, 12), 0, 0);
        due("FAR stays, too", x.hinders(12, 0), -4);
        x.set(1, 2);
        due("the step between", x.hinders(12, 0), 6);
    }

    private static void needs() {
        on(17);
        NineMilesOff x = Lands.put(Lands.only(1, 2, 0, 1, 2, 3, 4, 5), 0, 1);
        due("needs(0, 5)", x.needs(0, 5), 5);
        due("needs(3, 4)", x.needs(3, 4), 1);
        due("where they are", x.needs(0, 1), 1);
        due("too near", x.needs(2, 2), -4);
        due("closed", x.needs(0, 6), -4);
        due("FARTHEST stays", x.count(6), 2);
        due("no such cell", x.needs(36, 0), -1);
        due("no such cell", x.needs(0, -1), -1);
        Lands.put(x, 0, 5);
        due("now, too", x.needs(0, 1), 5);
        x.set(0, 0);
        Lands.put(x, 2, 2);
        due("none", x.needs(2, 2), 0);
        x = Lands.put(Lands.only(0, 0, 0, 1, 2, 8, 14, 13, 12, 18, 24, 25, 26, 27, 28, 22, 16, 10, 4), 0, 0);
        due("together", x.needs(4, 4), 0);
        due("least by the way", x.needs(4, 0), 4);
        due("least by the way", x.needs(0, 28), 8);
        x = new NineMilesOff();
        due("nobody", x.needs(0, 0), -3);
        due("nobody, no cell", x.needs(0, 36), -1);
        x = Lands.plains(0, 20);
        Lands.lay(x, 3, 9, 35);
        Lands.put(x, 0, 0);
        due("greatest", x.needs(0, 35), 15);
    }

    private static NineMilesOff threeCells() {
        return Lands.put(Lands.only(1, 2, 0, 1, 2), 0, 1);
    }

    private static void within() {
        on(18);
        NineMilesOff x = threeCells();
        int[] many = {1, 4, 6, 6};
        for (int n = 0; n < many.length; n++) {
            due("within(" + n + ")", x.within(n), many[n]);
        }
        due("within(40)", x.within(40), 6);
        due("within(41)", x.within(41), -1);
        due("within(-1)", x.within(-1), -1);
        x.set(0, 2);
        due("not a pair now", x.within(40), 0);
        due("not a pair now", x.within(0), 0);
        x = new NineMilesOff();
        due("nobody", x.within(0), -3);
        due("nobody", x.within(41), -1);
        x.stands(0, 0);
        due("she is nowhere", x.within(0), -3);
    }

    private static void ways() {
        on(19);
        NineMilesOff x = threeCells();
        int[] many = {1, 4, 15};
        for (int n = 0; n < many.length; n++) {
            due("ways(" + n + ")", x.ways(n), many[n]);
        }
        due("ways(11)", x.ways(11), -1000000001L);
        due("ways(-1)", x.ways(-1), -1000000001L);
        x.set(1, 0);
        due("not a pair now", x.ways(0), 0);
        due("not a pair now", x.ways(10), 0);
        x = new NineMilesOff();
        due("nobody", x.ways(0), -1000000003L);
        due("nobody", x.ways(11), -1000000001L);
        x.stands(1, 0);
        due("he is nowhere", x.ways(0), -1000000003L);
        x = Lands.put(Lands.only(0, 20, 0, 1), 0, 0);
        due("four each day", x.ways(10), 1048576);
        x = Lands.put(Lands.plains(0, 20), 14, 21);
        due("all", x.ways(1), 25);
        due("all", x.ways(10), square(lines(14, 10)));
    }

    /** Walks of one alone on PLAINS, all its WAYS always fit. */
    private static long lines(int from, int days) {
        long[] walks = new long[36];
        walks[from] = 1;
        for (int day = 0; day < days; day++) {
            long[] next = new long[36];
            for (int a = 0; a < 36; a++) {
                for (int b = 0; b < 36; b++) {
                    next[b] += Lands.apart(a, b) <= 1 ? walks[a] : 0;
                }
            }
            walks = next;
        }
        return Arrays.stream(walks).sum();
    }

    private static long square(long number) {
        return number * number;
    }

    private static void rounds() {
        on(20);
        NineMilesOff x = threeCells();
        int[] many = {1, 1, 4};
        for (int n = 0; n < many.length; n++) {
            due("rounds(" + n + ")", x.rounds(n), many[n]);
        }
        due("rounds(11)", x.rounds(11), -1000000001L);
        due("rounds(-1)", x.rounds(-1), -1000000001L);
        x.set(1, 0);
        due("not a pair now", x.rounds(0), 0);
        x = new NineMilesOff();
        due("nobody", x.rounds(0), -1000000003L);
        due("nobody", x.rounds(11), -1000000001L);
        x.stands(0, 0);
        due("she is nowhere", x.rounds(0), -1000000003L);
        due("a quarter", Lands.put(Lands.only(0, 20, 0, 1), 0, 0).rounds(10), 262144);
    }

    // ---- letters

    private static void late() {
        on(21);
        NineMilesOff x = Lands.only(2, 4, 0, 1, 2, 3, 4, 5);
        due("he is nowhere", x.late(5, 0), -3);
        x.stands(0, 2);
        due("she was on 5", x.late(5, 0), 1 + 4);
        due("a day ago", x.late(5, 1), 4);
        due("two days ago", x.late(5, 2), 0);
        due("near", x.late(2, 0), 0);
        x.set(1, 20);
        x.set(0, 0);
        due("all that can be gone", x.late(0, 8), 1 + 4 + 8);
        x.set(1, 5);
        x.stands(0, 5);
        due("just as far", x.late(0, 8), 1 + 4);
        x.set(1, 4);
        due("8 days ago", x.late(0, 8), 4);
        x.set(1, 2);
        due("3 days ago", x.late(0, 3), 4 * 0);
        due("closed", x.late(6, 0), -3);
        due("late(-1, 0)", x.late(-1, 0), -1);
        due("late(36, 0)", x.late(36, 0), -1);
        due("late(0, -1)", x.late(0, -1), -1);
        due("late(0, 9)", x.late(0, 9), -1);
        due("no such day, closed", x.late(6, 9), -1);
        x = Lands.plains(0, 20);
        x.stands(0, 14);
        due("all five", x.late(0, 8), 31);
        Lands.lay(x, 5, 0, 14, 8);
        due("from a closed one, not up", x.late(0, 0), 29);
    }

    private static void hisWay() {
        on(22);
        NineMilesOff x = Lands.only(2, 3, 0, 1, 2, 3, 4, 5);
        for (int sort = 0; sort < 3; sort++) {
            Lands.numbers(x, sort, sort, 0, 1);
            due("cells", x.hisWay(sort, 0), 8 + 16);
            due("how many", x.hisWay(sort, 1), 2);
        }
        Lands.numbers(x, 0, 0, 0);
        due("the first end", x.hisWay(0, 0), 4 + 8);
        Lands.numbers(x, 0, 0, 0, 5);
        due("he may leap", x.hisWay(0, 0), 4 + 8);
        Lands.numbers(x, 0, 0, 0, 4);
        due("he may leap", x.hisWay(0, 0), 2 + 4);
        Lands.numbers(x, 0, 0, 7);
        due("his may be closed", x.hisWay(0, 0), 1 + 4 + 8);
        Lands.numbers(x, 0, 0, 35);
        due("none", x.hisWay(0, 0), 0);
        due("none", x.hisWay(0, 1), 0);
        Lands.numbers(x, 0, 0, 0, 35, 0);
        due("lost on the way", x.hisWay(0, 1), 0);
        due("hisWay(0, 2)", x.hisWay(0, 2), -1000000001L);
        due("hisWay(0, -1)", x.hisWay(0, -1), -1000000001L);
        due("hisWay(8, 0)", x.hisWay(8, 0), -1000000001L);
        due("hisWay(-1, 0)", x.hisWay(-1, 0), -1000000001L);
        due("nothing held", x.hisWay(5, 0), -1000000011L);
        due("nothing held, no such what", x.hisWay(5, 2), -1000000001L);
        due("a ground", x.hisWay(6, 0), -1000000012L);
        x.row(0, 0, 0);
        due("no numbers", x.hisWay(0, 0), -1000000013L);
        for (int number : new int[] {-1, 36, Lands.LEAST}) {
            Lands.numbers(x, 0, 1, 0, 1, number);
            due("no cell " + number, x.hisWay(0, 1), -1000000013L);
        }
        NineMilesOff all = Lands.plains(0, 20);
        Lands.numbers(all, 0, 0, 0);
        due("all", all.hisWay(0, 0), (1L << 36) - 1);
        due("all", all.hisWay(0, 1), 36);
    }

    private static void letter() {
        on(23);
        NineMilesOff x = Lands.only(2, 3, 0, 1, 2, 3, 4, 5);
        for (int sort = 0; sort < 3; sort++) {
            Lands.numbers(x, sort, sort, 0, 1);
            due("the last", x.letter(sort), 1);
        }
        Lands.numbers(x, 0, 0, 0);
        due("one alone", x.letter(0), 0);
        Lands.numbers(x, 0, 0, 0, 4);
        due("the last", x.letter(0), 1);
        Lands.numbers(x, 0, 0, 35);
        due("none", x.letter(0), -4);
        Lands.numbers(x, 0, 0, 0, 35, 0);
        due("none", x.letter(0), -4);
        Lands.numbers(x, 0, 0, 3, 2);
        due("she may be on the first cell", x.letter(0), 1);
        Lands.numbers(x, 0, 0, 0, 0, 5, 5, 4);
        due("not the last", x.letter(0), 4);
        x.set(0, 5);
        x.set(1, 5);
        Lands.numbers(x, 0, 0, 0, 0, 0);
        due("of several the first", x.letter(0), 0);
        Lands.numbers(x, 0, 0, 0, 1);
        due("none", x.letter(0), -4);
        x.set(0, 4);
        Lands.numbers(x, 0, 0, 0, 1, 1);
        due("of several the first", x.letter(0), 0);
        Lands.numbers(x, 0, 0, 0, 1, 0);
        due("told on the last", x.letter(0), 2);
        due("letter(8)", x.letter(8), -1);
        due("letter(-1)", x.letter(-1), -1);
        due("nothing held", x.letter(5), -11);
        due("a ground", x.letter(6), -12);
        x.row(0, 0, 0);
        due("no numbers", x.letter(0), -13);
        Lands.numbers(x, 0, 1, 0, 36);
        due("no cell", x.letter(0), -13);
        Lands.numbers(x, 0, 1, -1, 0);
        due("no cell", x.letter(0), -13);
    }

    private static void third() {
        on(24);
        NineMilesOff x = Lands.plains(1, 1);
        due("nobody", x.third(0), -3);
        due("nobody", x.third(2), -1);
        Lands.put(x, 0, 2);
        due("between", x.third(0), 1);
        due("the least", x.third(1), 1);
        due("third(-1)", x.third(-1), -1);
        Lands.put(x, 7, 14);
        due("two", x.third(0), 2);
        due("the least", x.third(1), 8);
        Lands.lay(x, 5, 0, 8);
        due("open ones", x.third(0), 1);
        due("the least", x.third(1), 13);
        Lands.put(x, 0, 35);
        due("none", x.third(0), 0);
        due("none", x.third(1), -4);
        x = Lands.put(Lands.plains(0, 20), 0, 35);
        due("all", x.third(0), 36);
        due("the least", x.third(1), 0);
        x = Lands.plains(0, 20);
        x.stands(0, 0);
        due("she is nowhere", x.third(0), -3);
    }

    // ---- a game, snows, means

    private static void game() {
        on(25);
        NineMilesOff x = Lands.only(0, 20, 0, 1, 2, 3, 4, 5);
        due("nobody", x.game(0), -3);
        due("nobody", x.game(2), -1);
        x.stands(0, 0);
        due("she is nowhere", x.game(1), -3);
        x.stands(1, 3);
        due("he comes, she goes", x.game(0), 33);
        due("least far", x.game(1), 3);
        due("game(-1)", x.game(-1), -1);
        Lands.put(x, 0, 5);
        due("she can only stay", x.game(0), 30);
        due("least far", x.game(1), 4);
        x = Lands.put(Lands.only(0, 20, 0, 1, 2), 1, 1);
        due("none", x.game(0), -4);
        due("least far", x.game(1), 1);
        x = Lands.put(Lands.plains(0, 20), 35, 0);
        due("the corners", x.game(0), 10);
        due("least far", x.game(1), 9);
        Lands.put(x, 0, 35);
        due("the corners", x.game(0), 30);
        due("least far", x.game(1), 9);
        x = Lands.put(Lands.only(0, 20, 7, 10), 7, 10);
        due("both can only stay", x.game(0), 0);
        due("least far", x.game(1), 3);
        x = Lands.put(Lands.plains(0, 20), 14, 16);
        due("the first of several", x.game(0), 31);
        due("least far", x.game(1), 2);
        Lands.lay(x, 5, 0, 14);
        due("he goes off a closed one", x.game(0), 31);
        x.set(0, 20);
        due("OFF does not matter", x.game(0), 31);
        due("no DAY goes", x.count(2), 0);
    }

    private static void fraction(NineMilesOff x, int from, int to, long above, long below) {
        due("snow(" + from + ", " + to + ", 0)", x.snow(from, to, 0), above);
        due("snow(" + from + ", " + to + ", 1)", x.snow(from, to, 1), below);
    }

    private static void snow() {
        on(26);
        fraction(new NineMilesOff(), 0, 35, 1, 1);
        NineMilesOff x = Lands.only(0, 20, 0, 1, 2);
        fraction(x, 0, 2, 1, 1);
        fraction(x, 0, 3, 0, 1);
        fraction(x, 3, 3, 0, 1);
        Lands.lay(x, 7, 3, 1);
        fraction(x, 0, 2, 7, 10);
        fraction(x, 0, 0, 1, 1);
        fraction(x, 1, 1, 7, 10);
        Lands.lay(x, 3, 0, 0);
        fraction(x, 0, 2, 7, 20);
        fraction(x, 2, 0, 7, 20);
        fraction(x, 1, 2, 7, 10);
        Lands.lay(x, 2, 0, 2);
        fraction(x, 0, 2, 63, 200);
        x.set(2, 1);
        fraction(x, 0, 2, 63, 200);
        x = Lands.only(0, 20, 0, 1, 6, 7);
        Lands.lay(x, 7, 5, 1, 6);
        fraction(x, 0, 7, 3, 4);
        Lands.lay(x, 6, 0, 1);
        Lands.lay(x, 4, 9, 6);
        fraction(x, 0, 7, 24, 25);
        Lands.lay(x, 5, 0, 6);
        fraction(x, 0, 7, 4, 5);
    }

    private static void snowEdges() {
        on(26);
        NineMilesOff x = Lands.only(0, 20, 0, 1, 2, 3, 4, 5, 11, 17, 23);
        Lands.lay(x, 7, 9, 1, 2, 3, 4, 5, 11, 17, 23);
        fraction(x, 0, 23, 1, 100000000);
        Lands.lay(x, 7, 1, 0);
        due("nine unsure", x.snow(0, 23, 0), -1000000003L);
        due("nine unsure elsewhere", x.snow(30, 30, 1), -1000000003L);
        due("no cell", x.snow(-1, 0, 0), -1000000001L);
        due("no cell", x.snow(0, 36, 0), -1000000001L);
        due("no part", x.snow(0, 0, 2), -1000000001L);
        due("no part", x.snow(0, 0, -1), -1000000001L);
        Lands.lay(x, 7, 0, 0);
        fraction(x, 0, 1, 1, 10);
        fraction(x, 0, 6, 0, 1);
        Lands.lay(x, 2, 0, 1, 2, 3, 4, 5, 11, 17, 23);
        fraction(x, 0, 23, 43046721, 100000000);
    }

    private static void mean() {
        on(27);
        NineMilesOff x = Lands.only(1, 2, 0, 1, 2);
        due("above", x.mean(0), 4);
        due("below", x.mean(1), 3);
        due("no part", x.mean(2), -1000000001L);
        due("no part", x.mean(-1), -1000000001L);
        x.set(0, 0);
        x.set(1, 0);
        due("all 0", x.mean(0), 0);
        due("all 0", x.mean(1), 1);
        x.set(0, 3);
        due("none", x.mean(0), 0);
        due("none", x.mean(1), 1);
        x.set(0, 2);
        x.set(1, 2);
        due("whole", x.mean(0), 2);
        due("whole", x.mean(1), 1);
        Lands.lay(x, 3, 9, 0);
        x.set(0, 0);
        x.set(1, 20);
        due("heights, too", x.mean(0), 28);
        due("heights, too", x.mean(1), 9);
    }

    private static void curve() {
        on(28);
        NineMilesOff x = Lands.only(1, 3, 0, 1, 2);
        int[] many = {0, 4, 6, 6};
        for (int v = 0; v < many.length; v++) {
            due("curve(" + v + ")", x.curve(v), many[v]);
        }
        due("curve(20)", x.curve(20), 6);
        due("curve(21)", x.curve(21), -1);
        due("curve(-1)", x.curve(-1), -1);
        due("FARTHEST stays", x.count(6), 3);
        x.set(0, 0);
        due("with itself", x.curve(0), 3);
    }

    // ---- told ways, walks by seeds

    private static int judged(NineMilesOff x, int sort, int... numbers) {
        Lands.numbers(x, 0, sort, numbers);
        return x.judge(0);
    }

    private static void judge() {
        on(29);
        NineMilesOff x = Lands.plains(0, 20);
        x.row(0, 0, 0);
        due("he is nowhere", x.judge(0), -3);
        due("he is nowhere, nothing held", x.judge(5), -3);
        due("judge(8)", x.judge(8), -1);
        due("judge(-1)", x.judge(-1), -1);
        x.stands(0, 7);
        due("no numbers", x.judge(0), -4);
        due("nothing held", x.judge(5), -11);
        x.keep(5, 1, 0, 0);
        due("a ground", x.judge(5), -12);
        for (int sort = 0; sort < 3; sort++) {
            due("round", judged(x, sort, 7, 1, 2, 2, 8, 14, 13, 7), -4);
            due("not his", judged(x, sort, 8, 7), 0);
            due("not beside", judged(x, sort, 7, 14), 1);
            due("not beside", judged(x, sort, 7, 6, 5), 2);
            due("no cell", judged(x, sort, 7, 1, -5), 2);
            due("no cell", judged(x, sort, 7, -1), 1);
        }
        x.stands(0, 34);
        due("no cell", judged(x, 1, 34, 35, 36), 2);
        due("no cell", judged(x, 1, 34, 34 + 64), 1);
        due("no cell", judged(x, 2, 34, Lands.LEAST), 1);
        due("no cell", judged(x, 1, 34, Lands.MOST), 1);
        Lands.lay(x, 5, 0, 35, 34);
        due("not open", judged(x, 1, 34, 33, 34), 2);
        due("his own closed one", judged(x, 1, 34), -4);
        due("stays on it", judged(x, 1, 34, 34), 1);
        due("goes off it", judged(x, 1, 34, 28), -4);
        due("not open", judged(x, 1, 34, 35), 1);
    }

    private static void judgeSkips() {
        on(29);
        NineMilesOff x = Lands.only(0, 20, 0, 1, 2, 3, 9, 15, 14, 13, 12, 35);
        x.stands(0, 0);
        due("bytes", judged(x, 0, 0, -128, 2), -4);
        due("bytes", judged(x, 0, 0, 128, 2), -4);
        due("bytes", judged(x, 0, 0, -127, 2), 1);
        due("ints", judged(x, 1, 0, Lands.LEAST, 2), -4);
        due("ints", judged(x, 1, 0, Lands.LEAST + 1, 2), 1);
        due("ints", judged(x, 1, 0, -128, 2), 1);
        due("longs have no least one here", judged(x, 2, 0, Lands.LEAST, 2), 1);
        due("it is too far", judged(x, 0, 0, -128, 3), 2);
        due("two skipped", judged(x, 0, 0, -128, -128, 3), -4);
        due("two skipped", judged(x, 0, 0, -128, -128, 9), 3);
        due("by open ones", judged(x, 0, 0, -128, 12), 2);
        due("by open ones", judged(x, 0, 0, -128, -128, -128, -128, -128, -128, 12), 7);
        due("by open ones", judged(x, 0, 0, -128, -128, -128, -128, -128, -128, -128, 12), -4);
        due("skipped and stayed", judged(x, 0, 0, -128, 0, -128, 1), -4);
        due("skipped to another island", judged(x, 0, 0, -128, -128, -128, -128, -128, -128, -128, -128, 35), 9);
        due("skipped to a closed one", judged(x, 0, 0, -128, 6), 2);
        due("all skipped", judged(x, 0, -128, -128), -4);
        due("the first skipped is his", judged(x, 0, -128, 1), -4);
        due("the first skipped is his", judged(x, 0, -128, 2), 1);
        due("the first skipped is his", judged(x, 0, -128, -128, 2), -4);
        due("from the last that is told", judged(x, 0, 0, 1, -128, 9), 3);
        due("from the last that is told", judged(x, 0, 0, 1, 2, -128, 9), -4);
        Lands.lay(x, 5, 0, 0);
        due("skips off a closed one", judged(x, 0, 0, -128, 2), -4);
        due("skips back onto it", judged(x, 0, 0, -128, 0), 2);
    }

    private static void seeds() {
        on(30);
        NineMilesOff x = new NineMilesOff();
        due("nobody", x.seeds(1, 0, 0), -3);
        due("nobody", x.seeds(0, 0, 0), -1);
        x.stands(0, 0);
        due("she is nowhere", x.seeds(1, 0, 0), -3);
        x.stands(1, 1);
        due("seeds(0, 0, 0)", x.seeds(0, 0, 0), -1);
        due("seeds(21, 0, 0)", x.seeds(21, 0, 0), -1);
        due("seeds(-1, 0, 0)", x.seeds(-1, 0, 0), -1);
        due("seeds(1, 0, 2)", x.seeds(1, 0, 2), -1);
        due("seeds(1, 0, -1)", x.seeds(1, 0, -1), -1);
        x = Lands.put(Lands.only(4, 2, 0, 3), 0, 3);
        due("both can only stay", x.seeds(1, 5, 0), 20);
        due("both can only stay", x.seeds(20, -5, 0), 400);
        due("both can only stay", x.seeds(20, 5, 1), 400);
        x.set(0, 3);
        due("none", x.seeds(20, 5, 0), 0);
        x.set(1, 3);
        due("none", x.seeds(20, 5, 1), 0);
        x = Lands.put(Lands.plains(3, 3), 14, 21);
        for (int z : new int[] {0, 1, -1, Lands.LEAST, Lands.MOST, 123456789}) {
            for (int n : new int[] {1, 2, 20}) {
                due("seeds(" + n + ", " + z + ", 0)", x.seeds(n, z, 0), walked(n, z, true));
                due("seeds(" + n + ", " + z + ", 1)", x.seeds(n, z, 1), walked(n, z, false));
            }
        }
        due("DAY stays", x.count(2), 0);
        due("STOPPED stays", x.count(3), 0);
        due("PAIN stays", x.count(4), 0);
        due("HE stays", x.count(0), 14);
        due("SHE stays", x.count(1), 21);
    }

    private static int seed;

    private static int drawn(int cell) {
        seed = seed * 1103515245 + 12345;
        int draw = (seed & Lands.MOST) / 65536 % 5;
        int to = cell + new int[] {0, -6, -1, 1, 6}[draw];
        return to < 0 || to > 35 || Lands.apart(cell, to) > 1 ? cell : to;
    }

    /** Walks on PLAINS from 14 and 21 with NEAREST and FARTHEST 3. */
    private static int walked(int n, int z, boolean stopped) {
        int days = 0;
        seed = z;
        for (int walk = 0; walk < n; walk++) {
            int his = 14;
            int hers = 21;
            for (int day = 0; day < 20; day++) {
                his = drawn(his);
                hers = drawn(hers);
                days += (stopped ? Lands.apart(his, hers) < 3 : Lands.apart(his, hers) > 3) ? 1 : 0;
            }
        }
        return days;
    }

    // ---- the image, what is told

    private static void image() {
        on(31);
        NineMilesOff x = Lands.put(Lands.plains(0, 20), 0, 1);
        due("image()", x.image(), 0);
        x.go(0, 0);
        x.go(3, 3);
        due("image()", x.image(), 2);
        x.stands(0, 30);
        x.go(0, 0);
        due("the later one", x.restore(), 2);
        due("HE", x.count(0), 1);
    }

    private static void restore() {
        on(32);
        NineMilesOff x = Lands.put(Lands.plains(1, 1), 0, 0);
        due("none", x.restore(), -3);
        x.go(0, 0);
        x.go(4, 3);
        Lands.lay(x, 3, 4, 20);
        Lands.lay(x, 4, 3, 0);
        x.set(2, 1);
        x.keep(0, 1, 2, 5);
        x.image();
        int[] then = new int[9];
        for (int what = 0; what < 9; what++) {
            then[what] = x.count(what);
        }
        for (int round = 0; round < 2; round++) {
            x.set(2, 0);
            x.set(0, 8);
            x.set(1, 9);
            Lands.put(x, 35, 34);
            x.go(0, 0);
            x.set(1, 0);
            x.go(0, 0);
            Lands.lay(x, 5, 1, 0, 20, 21, 35);
            x.keep(0, 1, 1, 6);
            Lands.numbers(x, 1, 1, 77);
            due("restore()", x.restore(), 2);
            for (int what = 0; what < 9; what++) {
                due("count(" + what + ")", x.count(what), then[what]);
            }
            due("KIND", x.ground(20, 0), 3);
            due("FIGURE", x.ground(20, 1), 4);
            due("KIND", x.ground(0, 0), 4);
            due("KIND", x.ground(35, 0), 0);
            due("KIND", x.ground(21, 0), 0);
            due("FIGURE", x.ground(21, 1), 0);
            due("shelves stay", x.cost(0), 1);
            due("shelves stay", x.element(1, 0), 77);
        }
        due("STOPPED", then[3], 1);
        due("PAIN", then[4], 1);
        x.go(0, 0);
        due("DAY goes on", x.count(2), 3);
    }

    private static void count() {
        on(33);
        NineMilesOff x = Lands.plains(2, 3);
        due("HE", x.count(0), -4);
        due("SHE", x.count(1), -4);
        Lands.put(x, 8, 9);
        x.go(0, 0);
        x.go(0, 3);
        x.go(1, 3);
        x.go(2, 0);
        x.set(2, 1);
        Lands.lay(x, 3, 0, 30, 31);
        int[] counts = {1, 11, 4, 1, 2, 2, 3, 1, 34};
        for (int what = 0; what < 9; what++) {
            due("count(" + what + ")", x.count(what), counts[what]);
        }
        due("count(9)", x.count(9), -1);
        due("count(-1)", x.count(-1), -1);
        due("count(LEAST)", x.count(Lands.LEAST), -1);
    }

    // ---- shelves

    private static void keep() {
        on(34);
        NineMilesOff x = new NineMilesOff();
        due("keep(0, 1, 7, 9)", x.keep(0, 1, 7, 9), 0);
        due("cost", x.cost(0), 12);
        due("keep(7, 1, 0, 0)", x.keep(7, 1, 0, 0), 0);
        due("keep(7, 0, -9, 99)", x.keep(7, 0, -9, 99), 0);
        due("nothing", x.cost(7), -11);
        due("keep(8, 1, 0, 0)", x.keep(8, 1, 0, 0), -1);
        due("keep(-1, 0, 0, 0)", x.keep(-1, 0, 0, 0), -1);
        due("keep(0, 2, 0, 0)", x.keep(0, 2, 0, 0), -1);
        due("keep(0, -1, 0, 0)", x.keep(0, -1, 0, 0), -1);
        due("keep(0, 1, 8, 0)", x.keep(0, 1, 8, 0), -1);
        due("keep(0, 1, -1, 0)", x.keep(0, 1, -1, 0), -1);
        due("keep(0, 1, 0, 10)", x.keep(0, 1, 0, 10), -1);
        due("keep(0, 1, 0, -1)", x.keep(0, 1, 0, -1), -1);
        due("nothing changed", x.cost(0), 12);
        x.row(0, 0, 1);
        due("a ground for a row", x.keep(0, 1, 1, 0), 0);
        due("a ground", x.put(0, 0, 0), -12);
        x.row(0, 0, 1);
        due("nothing for a row", x.keep(0, 0, 0, 0), 0);
        due("nothing", x.put(0, 0, 0), -11);
    }

    private static void row() {
        on(35);
        NineMilesOff x = new NineMilesOff();
        due("row(0, 0, 100)", x.row(0, 0, 100), 0);
        due("last", x.put(0, 99, 5), 0);
        due("beyond", x.put(0, 100, 5), -13);
        due("row(0, 0, 100) anew", x.row(0, 0, 100), 0);
        due("0 at first", x.element(0, 99), 0);
        due("row(7, 2, 0)", x.row(7, 2, 0), 0);
        due("empty", x.put(7, 0, 0), -13);
        due("row(0, 0, 101)", x.row(0, 0, 101), -1);
        due("row(0, 0, -1)", x.row(0, 0, -1), -14);
        due("row(0, 0, Lands.LEAST)", x.row(0, 0, Lands.LEAST), -14);
        due("row(8, 0, -1)", x.row(8, 0, -1), -1);
        due("row(-1, 0, 0)", x.row(-1, 0, 0), -1);
        due("row(0, 3, 0)", x.row(0, 3, 0), -1);
        due("row(0, -1, -1)", x.row(0, -1, -1), -1);
        due("nothing changed", x.put(0, 99, 1), 0);
        x.keep(1, 1, 0, 0);
        due("a row for a ground", x.row(1, 1, 3), 0);
        due("a row", x.cost(1), -12);
    }

    private static void put() {
        on(36);
        NineMilesOff x = new NineMilesOff();
        int[] numbers = {0, 127, 128, 255, 256, -1, -129, 300, Lands.LEAST, Lands.MOST};
        long[] bytes = {0, 127, -128, -1, 0, -1, 127, 44, 0, -1};
        for (int i = 0; i < numbers.length; i++) {
            for (int sort = 0; sort < 3; sort++) {
                x.row(0, sort, 10);
                due("put(0, " + i + ", " + numbers[i] + ")", x.put(0, i, numbers[i]), 0);
                due("sort " + sort, x.element(0, i), sort == 0 ? bytes[i] : numbers[i]);
            }
        }
        due("no shelf", x.put(8, 0, 0), -1);
        due("no shelf", x.put(-1, 0, 0), -1);
        due("nothing held", x.put(1, 0, 0), -11);
        x.keep(1, 1, 0, 0);
        due("a ground", x.put(1, 0, 0), -12);
        due("no place", x.put(0, 10, 0), -13);
        due("no place", x.put(0, -1, 0), -13);
        due("no place", x.put(0, Lands.MOST, 0), -13);
        due("no place", x.put(0, Lands.LEAST, 0), -13);
    }

    private static int thrown(NineMilesOff x, int d, int i) {
        try {
            x.element(d, i);
        } catch (RuntimeException e) {
            return e.getClass() == IllegalArgumentException.class ? 1 : e.getClass() == IllegalStateException.class ? 2 : 3;
        }
        return 0;
    }

    private static void element() {
        on(37);
        NineMilesOff x = new NineMilesOff();
        Lands.numbers(x, 0, 1, 4, 5);
        due("element(0, 1)", x.element(0, 1), 5);
        due("element(0, 0)", x.element(0, 0), 4);
        x.row(7, 2, 1);
        due("element(7, 0)", x.element(7, 0), 0);
        x.keep(1, 1, 0, 0);
        due("no shelf", thrown(x, 8, 0), 1);
        due("no shelf", thrown(x, -1, 0), 1);
        due("no shelf, no place", thrown(x, 8, -1), 1);
        due("nothing held", thrown(x, 2, 0), 2);
        due("a ground", thrown(x, 1, 0), 2);
        due("no place", thrown(x, 0, 2), 2);
        due("no place", thrown(x, 0, -1), 2);
        due("no place", thrown(x, 0, Lands.MOST), 2);
        x.row(0, 1, 1);
        due("no place any more", thrown(x, 0, 1), 2);
    }

    private static void copy() {
        on(38);
        NineMilesOff x = new NineMilesOff();
        Lands.numbers(x, 0, 1, 1, 2, 3, 4, 5);
        Lands.numbers(x, 1, 1, 0, 0, 0);
        due("copy(0, 1, 1, 0, 3)", x.copy(0, 1, 1, 0, 3), 3);
        due("elements", x.element(1, 0) * 100 + x.element(1, 1) * 10 + x.element(1, 2), 234);
        due("the first stays", x.element(0, 1), 2);
        due("copy up in itself", x.copy(0, 0, 0, 1, 4), 4);
        due("elements", x.element(0, 1) * 1000 + x.element(0, 2) * 100 + x.element(0, 3) * 10 + x.element(0, 4), 1234);
        due("copy down in itself", x.copy(0, 1, 0, 0, 4), 4);
        due("elements", x.element(0, 0) * 1000 + x.element(0, 1) * 100 + x.element(0, 2) * 10 + x.element(0, 3), 1234);
        due("none", x.copy(0, 0, 1, 0, 0), 0);
        due("none at the end", x.copy(0, 5, 1, 3, 0), 0);
        due("from beyond", x.copy(0, 3, 1, 0, 3), -13);
        due("to beyond", x.copy(0, 0, 1, 1, 3), -13);
        due("below 0", x.copy(0, -1, 1, 0, 1), -13);
        due("below 0", x.copy(0, 0, 1, -1, 1), -13);
        due("below 0", x.copy(0, 0, 1, 0, -1), -13);
        due("far beyond", x.copy(0, Lands.MOST, 1, 0, 1), -13);
        due("far beyond", x.copy(0, 1, 1, Lands.MOST, 1), -13);
        due("far beyond", x.copy(0, 1, 1, 0, Lands.MOST), -13);
        due("far beyond", x.copy(0, 1, 1, 0, Lands.LEAST), -13);
        x.row(2, 0, 3);
        x.row(3, 2, 3);
        x.keep(4, 1, 0, 0);
        due("not one sort", x.copy(0, 0, 2, 0, 1), -12);
        due("not one sort", x.copy(2, 0, 3, 0, 1), -12);
        due("not one sort, no place", x.copy(2, -1, 3, 0, 1), -12);
        due("a ground", x.copy(0, 0, 4, 0, 1), -12);
        due("a ground", x.copy(4, 0, 0, 0, 1), -12);
        due("bytes to a ground", x.copy(2, 0, 4, 0, 1), -12);
        due("a ground to bytes", x.copy(4, 0, 2, 0, 1), -12);
        due("two grounds", x.copy(4, 0, 4, 0, 1), -12);
        due("nothing held", x.copy(0, 0, 5, 0, 1), -11);
        due("nothing held", x.copy(5, 0, 0, 0, 1), -11);
        due("nothing held, a ground", x.copy(4, 0, 5, 0, 1), -11);
        due("no shelf", x.copy(0, 0, 8, 0, 1), -1);
        due("no shelf", x.copy(-1, 0, 0, 0, 1), -1);
        due("no shelf, nothing held", x.copy(5, 0, 8, 0, 1), -1);
        Lands.numbers(x, 2, 0, 200, 7, 8);
        x.row(1, 0, 3);
        due("bytes", x.copy(2, 0, 1, 1, 2), 2);
        due("bytes", x.element(1, 1), -56);
        x.keep(2, 0, 0, 0);
        due("what came stays", x.element(1, 2), 7);
    }

    private static void cost() {
        on(39);
        int[][] costs = {{3, 3, 3}, {1, 1, 1}, {4, 4, 4}, {8, 8, 8}, {8, 4, 1}, {9, 9, 9}, {9, 13, 18}, {3, 7, 12}};
        int[] figures = {0, 4, 9};
        NineMilesOff x = new NineMilesOff();
        for (int kind = 0; kind < 8; kind++) {
            for (int f = 0; f < 3; f++) {
                x.keep(0, 1, kind, figures[f]);
                due("cost of kind " + kind + ", figure " + figures[f], x.cost(0), costs[kind][f]);
            }
        }
        x.keep(0, 1, 4, 7);
        due("cost of a pass with 7", x.cost(0), 1);
        x.keep(0, 1, 4, 8);
        due("cost of a pass with 8", x.cost(0), 1);
        due("no shelf", x.cost(8), -1);
        due("no shelf", x.cost(-1), -1);
        due("nothing held", x.cost(1), -11);
        x.row(1, 0, 0);
        due("a row", x.cost(1), -12);
    }

    private static void toss() {
        on(40);
        int[][] failures = {{1, 4, 9}, {-15, -15, -15}, {101, 104, 109}, {101, 104, 109}, {207, 204, 201},
            {1, 4, 9}, {1, 4, 9}, {1, 4, 9}};
        int[] figures = {1, 4, 9};
        NineMilesOff x = new NineMilesOff();
        for (int kind = 0; kind < 8; kind++) {
            for (int f = 0; f < 3; f++) {
                x.keep(0, 1, kind, figures[f]);
                due("toss of kind " + kind + ", figure " + figures[f], x.toss(0), failures[kind][f]);
            }
            x.keep(0, 1, kind, 0);
            due("toss of kind " + kind + ", figure 0", x.toss(0), -15);
        }
        due("no shelf", x.toss(8), -1);
        due("no shelf", x.toss(-1), -1);
        due("nothing held", x.toss(1), -11);
        x.row(1, 0, 0);
        due("a row", x.toss(1), -12);
    }
}
