/** THE TEXT of a LAND; promise 2. */
final class TextSentences extends Sentences {
    private static final String[] WHOLE = {"g0000;", "h00;", "s00;", "n0306;", "w0;", "d00;"};

    @Override
    void all() {
        test("THE TEXT of a LAND stands in a ROW of bytes on a SHELF", this::onAnyShelf);
        test("STATEMENTS, each with \";\" behind, one at least", this::oneAtLeast);
        test("\"g\" KIND, FIGURE (a digit each), CELL (2 digits): its GROUND", this::grounds);
        test("\"h\" CELL (2 digits): HE stands there", () -> stands('h', 0));
        test("\"s\" likewise SHE", () -> stands('s', 1));
        test("\"n\" NEAREST, FARTHEST (2 digits each)", this::distances);
        test("\"w\" WINTER (a digit)", this::winter);
        test("\"d\" HIS WAY, HER WAY (a digit each): a DAY.", this::days);
        test("FAULT: kind 1 the place of the first byte with which no LAND can go on", this::firstWrongByte);
        test("(the end, if something lacks)", this::theEnd);
        test("-1000 less the place", this::lessThePlace);
        test("else kind 2 the place of the letter of the first STATEMENT that is not as it must be", this::placeOfLetter);
        test("(a number out of range", this::outOfRange);
        test("a CELL that is not OPEN", this::notOpen);
        test("a WAY that can not be gone", this::wayThatCanNotBeGone);
        test("nobody there", this::nobodyThere);
        test("DAY above 999)", this::dayAbove);
        test("-2000 less the place.", this::lessTheLettersPlace);
        test("Without FAULT all of it comes", this::allComes);
        test("with one nothing.", this::nothingComes);
        test("numbers in THE TEXT have just as many digits as told", this::justAsManyDigits);
        test("STATEMENTS are tried one behind the other, each on what those ahead of it made", this::oneBehindTheOther);
        test("and the first that can't be done so is told (kind 2)", this::firstIsTold);
        test("The ROW of a text, and what is taken from a SHELF, stay there", this::textStays);
        test("The text in SHELF d: how many STATEMENTS; the FAULT.", this::howMany);
        test("-1, -11, -12 (no ROW of bytes).", this::refusals);
    }

    private static NineMilesOff with(String text) {
        NineMilesOff x = new NineMilesOff();
        Lands.tell(x, text);
        return x;
    }

    private void onAnyShelf() {
        for (int d = 0; d < 8; d++) {
            NineMilesOff x = new NineMilesOff();
            Lands.write(x, d, "w1;");
            due("land(" + d + ")", x.land(d), 1);
            due("WINTER", x.count(7), 1);
        }
    }

    private void oneAtLeast() {
        due("no byte", Lands.told(""), -1000);
        due("one without \";\"", Lands.told("w0"), -1002);
        due("one", Lands.told("w0;"), 1);
        due("two, the last without \";\"", Lands.told("w0;w0"), -1005);
        due("two", Lands.told("w0;w0;"), 2);
        due("\";\" alone", Lands.told(";"), -1000);
        due("\";\" twice", Lands.told("w0;;"), -1003);
        due("as many as a ROW holds", Lands.told("w1;".repeat(33)), 33);
    }

    private void grounds() {
        for (int kind = 0; kind <= 7; kind++) {
            NineMilesOff x = with("g" + kind + "935;g" + kind + "000;");
            due("KIND", x.ground(35, 0), kind);
            due("FIGURE", x.ground(35, 1), 9);
            due("KIND", x.ground(0, 0), kind);
            due("FIGURE", x.ground(0, 1), 0);
        }
    }

    private void stands(char letter, int who) {
        for (String cell : new String[] {"00", "05", "10", "35"}) {
            NineMilesOff x = with(letter + cell + ";");
            due("there", x.count(who), Integer.parseInt(cell));
            due("the other one is nowhere", x.count(1 - who), -4);
            due("no DAY goes", x.count(2), 0);
        }
    }

    private void distances() {
        int[][] both = {{0, 0}, {20, 20}, {1, 19}, {19, 1}, {3, 10}, {10, 3}};
        for (int[] one : both) {
            NineMilesOff x = with(String.format("n%02d%02d;", one[0], one[1]));
            due("NEAREST", x.count(5), one[0]);
            due("FARTHEST", x.count(6), one[1]);
        }
    }

    private void winter() {
        due("w1", with("w1;").count(7), 1);
        due("w0", with("w1;w0;").count(7), 0);
    }

    private void days() {
        NineMilesOff x = with("h14;s14;d00;d12;d31;d43;d20;");
        due("HE", x.count(0), 14);
        due("SHE", x.count(1), 8);
        due("DAY", x.count(2), 5);
        due("STOPPED", x.count(3), 5);
    }

    private void firstWrongByte() {
        for (char sign : new char[] {'G', 'a', 'i', '0', ';', ' ', 0, 127, 128, 255}) {
            due("no letter of a STATEMENT: " + (int) sign, Lands.told(sign + "0000;"), -1000);
            due("nor of the second one: " + (int) sign, Lands.told("w0;" + sign + "0000;"), -1003);
        }
        for (String statement : WHOLE) {
            for (int place = 1; place < statement.length(); place++) {
                char[] signs = statement.toCharArray();
                for (char sign : new char[] {'/', ':', 'g', ' ', '-', 0, 176, 187}) {
                    signs[place] = sign;
                    due("wrong at " + place + " of " + statement, Lands.told(new String(signs)), -1000 - place);
                }
                signs[place] = place == statement.length() - 1 ? '0' : ';';
                due("another one at " + place + " of " + statement, Lands.told(new String(signs)), -1000 - place);
            }
        }
        due("of two the first", Lands.told("w?;?"), -1001);
        due("not where it would be a number out of range", Lands.told("g9?99;"), -1002);
    }

    private void theEnd() {
        for (String statement : WHOLE) {
            for (int end = 1; end < statement.length(); end++) {
                due("the end of " + statement, Lands.told(statement.substring(0, end)), -1000 - end);
                due("behind another one", Lands.told("w1;" + statement.substring(0, end)), -1003 - end);
            }
        }
        due("of nothing", Lands.told(""), -1000);
        due("of 100 bytes", Lands.told("w1;".repeat(33) + "d"), -1100);
        due("of 99 bytes", Lands.told("w1;".repeat(32) + "d00"), -1099);
    }

    private void lessThePlace() {
        due("at 0", Lands.told("?"), -1000);
        due("at 99", Lands.told("w1;".repeat(33) + "?"), -1099);
        due("at 50", Lands.told("d00;".repeat(12) + "w1 "), -1050);
    }

    private void placeOfLetter() {
        due("the first", Lands.told("w2;w0;"), -2000);
        due("the last", Lands.told("w0;n0000;h36;"), -2009);
        due("kind 1 is told ahead of it", Lands.told("w2;w0;w"), -1007);
        due("kind 1 is told ahead of it", Lands.told("h99;s99;d00;x"), -1012);
    }

    private void outOfRange() {
        String[] least = {"g7900;", "g0035;", "h35;", "s35;", "n2000;", "n0020;", "w1;", "h01;s01;d44;", "h20;s20;d11;"};
        for (String text : least) {
            due(text, Lands.told(text) > 0 ? 1 : 0, 1);
        }
        String[] beyond = {"g8000;", "g9935;", "g0036;", "g0040;", "g0099;", "h36;", "h99;", "s36;", "s99;", "n2100;",
            "n9900;", "n0021;", "n0099;", "w2;", "w9;"};
        for (String text : beyond) {
            due(text, Lands.told(text), -2000);
        }
        due("HIS WAY 5", Lands.told("h14;s14;d50;"), -2008);
        due("HER WAY 5", Lands.told("h14;s14;d05;"), -2008);
        due("HIS WAY 9", Lands.told("h14;s14;d90;"), -2008);
    }

    private void notOpen() {
        due("HE, a RIVER", Lands.told("g5009;h09;"), -2006);
        due("SHE, a RIVER", Lands.told("g5009;s09;"), -2006);
        due("HE, a RIVER in WINTER", Lands.told("w1;g5009;h09;"), 3);
        due("SHE, a MOUNTAIN in WINTER", Lands.told("w1;g3009;s09;"), -2009);
        due("SHE, a MOUNTAIN", Lands.told("w0;g3009;s09;"), 3);
        due("a PASS with 4 in WINTER", Lands.told("w1;g4409;h09;"), 3);
        due("a PASS with 5 in WINTER", Lands.told("w1;g4509;h09;"), -2009);
    }

    private void wayThatCanNotBeGone() {
        due("HIS off the square", Lands.told("h00;s14;d10;"), -2008);
        due("HERS off the square", Lands.told("h14;s35;d04;"), -2008);
        due("HIS onto a RIVER", Lands.told("g5015;h14;s00;d30;"), -2014);
        due("HERS onto a RIVER", Lands.told("g5015;h00;s14;d03;"), -2014);
        due("stay on one that is closed then", Lands.told("h14;s14;g5014;d00;d13;"), 5);
        due("not back onto it", Lands.told("h14;s14;g5014;d10;d40;"), -2018);
    }

    private void nobodyThere() {
        due("neither", Lands.told("d00;"), -2000);
        due("HE alone", Lands.told("h00;d00;"), -2004);
        due("SHE alone", Lands.told("s00;d00;"), -2004);
        due("both", Lands.told("h00;s00;d00;"), 3);
    }

    private void dayAbove() {
        NineMilesOff x = Lands.put(Lands.plains(0, 20), 0, 0);
        Lands.write(x, 0, "d00;".repeat(25));
        for (int i = 0; i < 39; i++) {
            due("25 DAYS", x.land(0), 25);
        }
        due("DAY", x.count(2), 975);
        due("the 25th would be DAY 1000", x.land(0), -2096);
        due("DAY", x.count(2), 975);
        Lands.write(x, 1, "d00;".repeat(24));
        due("DAY 999 can be", x.land(1), 24);
        due("DAY", x.count(2), 999);
        due("none behind it", Lands.tell(x, "w1;d00;"), -2003);
        due("others can still be told", Lands.tell(x, "w1;h01;s02;n0101;"), 4);
    }

    private void lessTheLettersPlace() {
        due("at 0", Lands.told("w9;"), -2000);
        due("at 96", Lands.told("w1;".repeat(32) + "d00;"), -2096);
        due("at 93", Lands.told("w1;".repeat(31) + "n2121;"), -2093);
        due("at 6", Lands.told("g0000;d00;h99;"), -2006);
    }

    private void allComes() {
        NineMilesOff x = with("g3701;w1;n0211;h00;s12;d00;d33;");
        due("it faults: a MOUNTAIN in WINTER", x.ground(1, 0), 0);
        x = with("g3701;n0211;h00;s12;d00;d33;w1;");
        due("KIND", x.ground(1, 0), 3);
        due("FIGURE", x.ground(1, 1), 7);
        int[] counts = {1, 13, 2, 0, 0, 2, 11, 1, 35};
        for (int what = 0; what < counts.length; what++) {
            due("count(" + what + ")", x.count(what), counts[what]);
        }
        due("more of it", Lands.tell(x, "d22;n0000;d00;"), 3);
        due("HE", x.count(0), 0);
        due("SHE", x.count(1), 12);
        due("DAY", x.count(2), 4);
        due("PAIN", x.count(4), 1);
        due("the land that was there stays", x.ground(1, 0), 3);
    }

    private void nothingComes() {
        String[] wrong = {"g3701;w1;n2020;h02;s12;d00;d00;w2;", "g0020;n2000;h02;s04;d00;d10;", "w1;h03;s03;n0000;d00;d"};
        int[] due = {-2031, -2024, -1022};
        for (int i = 0; i < wrong.length; i++) {
            NineMilesOff x = Lands.rich();
            Lands.write(x, 0, wrong[i]);
            due(wrong[i], x.land(0), due[i]);
            NineMilesOff other = Lands.rich();
            Lands.write(other, 0, wrong[i]);
            dueTexts("all behind " + wrong[i], Lands.all(x), Lands.all(other));
        }
    }

    private void justAsManyDigits() {
        for (String statement : WHOLE) {
            String digits = statement.substring(1, statement.length() - 1);
            String less = statement.charAt(0) + digits.substring(1) + ";";
            String more = statement.charAt(0) + digits + "0;";
            due("one less, " + less, Lands.told(less), -1000 - digits.length());
            due("one more, " + more, Lands.told(more), -1000 - digits.length() - 1);
        }
        due("none", Lands.told("w;"), -1001);
    }

    private void oneBehindTheOther() {
        due("a closed one that is OPEN by then", Lands.told("g5009;w1;h09;w0;"), 4);
        due("an OPEN one that is closed by then", Lands.told("g5009;h09;"), -2006);
        due("both come before they go", Lands.told("s01;h00;d22;"), -2008);
        due("both come before they go", Lands.told("s02;h01;d22;"), 3);
        NineMilesOff x = with("h00;s05;d00;n0020;d00;n0004;d00;n0620;d00;");
        due("PAIN by FARTHEST as it is on that DAY", x.count(4), 1);
        due("STOPPED by NEAREST as it is on that DAY", x.count(3), 1);
        x = new NineMilesOff();
        x.set(2, 1);
        due("on what was ahead of the text, too", Lands.tell(x, "g5009;h09;"), 2);
        due("later ones cover earlier ones", with("g3309;g7109;").ground(9, 0), 7);
    }

    private void firstIsTold() {
        due("of two the first", Lands.told("w0;w2;h36;"), -2003);
        due("of three the first", Lands.told("h01;s02;d00;d03;d03;d03;d03;w3;"), -2024);
    }

    private void textStays() {
        for (String text : new String[] {"w1;h05;", "w1;h36;", "w1;h3"}) {
            NineMilesOff x = new NineMilesOff();
            Lands.write(x, 3, text);
            int told = x.land(3);
            for (int i = 0; i < text.length(); i++) {
                due("byte " + i + " of " + text, x.element(3, i), text.charAt(i));
            }
            due("as many as before", answer(x, y -> y.element(3, text.length())), illegalState());
            due("it can be told once more", x.land(3), told);
        }
        NineMilesOff x = new NineMilesOff();
        x.keep(3, 1, 2, 7);
        due("a GROUND is laid", x.lays(3, 0), 0);
        due("a GROUND is laid once more", x.lays(3, 1), 0);
        due("the same there", x.ground(1, 1), 7);
        due("COST", x.cost(3), 4);
        due("TOSS", x.toss(3), 107);
    }

    private void howMany() {
        due("one", Lands.told("n0306;"), 1);
        due("six", Lands.told("g0000;h00;s00;n0306;w0;d00;"), 6);
        due("the same twice", Lands.told("h00;h00;"), 2);
        due("kind 1", Lands.told("x"), -1000);
        due("kind 2", Lands.told("w3;"), -2000);
    }

    private void refusals() {
        for (int d : new int[] {-1, 8, Lands.LEAST, Lands.MOST}) {
            refused("land(" + d + ")", x -> x.land(d), -1);
        }
        refused("land(4)", x -> x.land(4), -11);
        refused("land(3) of a GROUND", x -> x.land(3), -12);
        refused("land(1) of ints", x -> x.land(1), -12);
        refused("land(2) of longs", x -> x.land(2), -12);
        refused("land(5) of no bytes", x -> x.land(5), -1000);
        NineMilesOff x = new NineMilesOff();
        Lands.numbers(x, 1, 1, 'w', '1', ';');
        due("ints that would be a text", x.land(1), -12);
        Lands.numbers(x, 1, 0, 'w' + 256, '1', ';');
        due("bytes, cut to a text", x.land(1), 1);
    }
}
