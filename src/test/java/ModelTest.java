import java.util.ArrayList;
import java.util.List;
import java.util.Random;
import java.util.function.LongSupplier;

/** Runs of at most 512 calls, each call made on NineMilesOff and on the Model, with the same answer due. */
public final class ModelTest {
    private static final int RUNS = 300;
    private static final int CALLS = 512;
    private static final int[] ODD = {-1, -2, Integer.MIN_VALUE, Integer.MAX_VALUE, 1000};

    private final Random random;
    private final NineMilesOff real = new NineMilesOff();
    private final Model model = new Model();
    private final List<String> told = new ArrayList<>();
    private boolean wrong;

    private ModelTest(long seed) {
        random = new Random(seed);
    }

    public static void main(String[] args) {
        int runs = args.length > 0 ? Integer.parseInt(args[0]) : RUNS;
        int first = args.length > 1 ? Integer.parseInt(args[1]) : 0;
        int wrongRuns = 0;
        for (int run = first; run < first + runs; run++) {
            ModelTest test = new ModelTest(run);
            test.play();
            if (test.wrong) {
                wrongRuns++;
                System.out.println("run " + run + ": " + test.tail());
            }
        }
        System.out.println(wrongRuns == 0 ? "ModelTest: " + runs + " runs agree" : wrongRuns + " runs do not agree");
        if (wrongRuns != 0) {
            System.exit(1);
        }
    }

    private String tail() {
        return String.join("; ", told.subList(Math.max(0, told.size() - 12), told.size()));
    }

    private boolean isOver() {
        return wrong || told.size() >= CALLS;
    }

    private int below(int n) {
        return random.nextInt(n);
    }

    private boolean once(int inSoMany) {
        return below(inSoMany) == 0;
    }

    /** A number 0 .. most, now and then one beside these or far off. */
    private int upTo(int most) {
        if (!once(25)) {
            return below(most + 1);
        }
        return once(2) ? most + 1 : ODD[below(ODD.length)];
    }

    private int pick(int... numbers) {
        return numbers[below(numbers.length)];
    }

    private static long answer(LongSupplier call) {
        try {
            return call.getAsLong();
        } catch (IllegalArgumentException e) {
            return e.getClass() == IllegalArgumentException.class ? Long.MIN_VALUE : Long.MAX_VALUE;
        } catch (IllegalStateException e) {
            return e.getClass() == IllegalStateException.class ? Long.MIN_VALUE + 1 : Long.MAX_VALUE;
        } catch (RuntimeException e) {
            return Long.MAX_VALUE;
        }
    }

    private long both(String call, LongSupplier got, LongSupplier due) {
        if (isOver()) {
            return 0;
        }
        long g = answer(got);
        long d = answer(due);
        told.add(call + " = " + g + (g == d ? "" : " (due " + d + ")"));
        wrong = g != d;
        return g;
    }

    private void play() {
        int style = below(4);
        setUp(style);
        while (!isOver()) {
            if (once(90)) {
                text();
            } else if (once(14)) {
                track();
            } else if (once(10)) {
                change(style);
            } else {
                ask(below(37));
            }
        }
    }

    private void setUp(int style) {
        int grounds = style == 0 ? below(6) : 6 + below(30);
        if (once(3)) {
            set(0, below(4));
            set(1, pick(1, 2, 3, 4, 5, 6, 8));
        }
        for (int i = 0; i < grounds; i++) {
            layOne(style);
        }
        stands(0, below(36));
        stands(1, below(36));
        if (!once(3)) {
            standFit();
        }
    }

    /** Puts both onto a PAIR, as little is to be asked where they are OFF. */
    private void standFit() {
        int many = model.pairs(-1);
        if (many > 0) {
            int pair = model.pairs(below(many));
            stands(0, pair / 100);
            stands(1, pair % 100);
        }
    }

    private void layOne(int style) {
        int d = 4 + below(2);
        int kind = style == 1 ? pick(5, 5, 3, 0, 6) : style == 2 ? pick(2, 3, 4, 4, 3, 1, 5) : below(8);
        keep(d, 1, kind, below(10));
        for (int i = 0; i < (style == 1 ? 4 : 1); i++) {
            lays(d, below(36));
        }
    }

    private void change(int style) {
        switch (below(7)) {
            case 0: set(0, upTo(once(3) ? 20 : 4)); break;
            case 1: set(1, upTo(once(3) ? 20 : 9)); break;
            case 2: set(2, upTo(1)); break;
            case 3: stands(upTo(1), upTo(35)); break;
            case 4: standFit(); break;
            case 5: layOne(style); break;
            default: lays(upTo(7), upTo(35)); break;
        }
    }

    private void track() {
        int d = below(4);
        int n = once(8) ? 8 + below(12) : below(7);
        int sort = below(3);
        row(d, sort, n);
        int his = once(4) || model.count(0) < 0 ? below(36) : model.count(0);
        for (int i = 0; i < n; i++) {
            int skip = sort == 0 ? pick(-128, 128) : Integer.MIN_VALUE;
            put(d, i, once(6) ? skip : once(20) ? pick(36, -1, 99) : his);
            his = Math.floorMod(his + pick(0, 1, -1, 6, -6), 36);
        }
        ask(once(2) ? 20 : 21);
        track(d);
    }

    private void track(int d) {
        both("hisWay(" + d + ", 0)", () -> real.hisWay(d, 0), () -> model.hisWay(d, 0));
        both("hisWay(" + d + ", 1)", () -> real.hisWay(d, 1), () -> model.hisWay(d, 1));
        both("letter(" + d + ")", () -> real.letter(d), () -> model.letter(d));
        both("judge(" + d + ")", () -> real.judge(d), () -> model.judge(d));
    }

    private String statement() {
        int two = once(12) ? below(100) : below(36);
        String cell = (two < 10 ? "0" : "") + two;
        switch (below(7)) {
            case 0: return "g" + (once(12) ? below(10) : below(8)) + below(10) + cell + ";";
            case 1: return "h" + cell + ";";
            case 2: return "s" + cell + ";";
            case 3: return "n0" + below(5) + (once(6) ? "" + pick(19, 20, 21) : "0" + (3 + below(7))) + ";";
            case 4: return "w" + (once(8) ? 2 : below(2)) + ";";
            default: return "d" + (once(15) ? 5 : below(5)) + below(5) + ";";
        }
    }

    private void text() {
        StringBuilder text = new StringBuilder();
        int statements = once(10) ? 0 : 1 + below(6);
        for (int i = 0; i < statements; i++) {
            text.append(statement());
        }
        if (once(3) && text.length() > 0) {
            text.setCharAt(below(text.length()), (char) pick('g', 'h', ';', '0', '9', '/', ':', 'x', 0, 200));
        }
        if (once(5) && text.length() > 0) {
            text.setLength(below(text.length()));
        }
        int d = 6 + below(2);
        row(d, once(20) ? 1 : 0, text.length());
        for (int i = 0; i < text.length(); i++) {
            put(d, i, text.charAt(i));
        }
        both("land(" + d + ") " + text, () -> real.land(d), () -> model.land(d));
        for (int what = 0; what <= 8; what++) {
            count(what);
        }
    }

    private void set(int what, int v) {
        both("set(" + what + ", " + v + ")", () -> real.set(what, v), () -> model.set(what, v));
    }

    private void stands(int who, int cell) {
        both("stands(" + who + ", " + cell + ")", () -> real.stands(who, cell), () -> model.stands(who, cell));
    }

    private void keep(int d, int what, int k, int figure) {
        both("keep(" + d + ", " + what + ", " + k + ", " + figure + ")",
            () -> real.keep(d, what, k, figure), () -> model.keep(d, what, k, figure));
    }

    private void lays(int d, int cell) {
        both("lays(" + d + ", " + cell + ")", () -> real.lays(d, cell), () -> model.lays(d, cell));
    }

    private void row(int d, int sort, int n) {
        both("row(" + d + ", " + sort + ", " + n + ")", () -> real.row(d, sort, n), () -> model.row(d, sort, n));
    }

    private void put(int d, int i, int v) {
        both("put(" + d + ", " + i + ", " + v + ")", () -> real.put(d, i, v), () -> model.put(d, i, v));
    }

    private void count(int what) {
        both("count(" + what + ")", () -> real.count(what), () -> model.count(what));
    }

    private void ask(int call) {
        if (call < 16) {
            askLand(call);
        } else if (call < 27) {
            askLetters(call);
        } else {
            askShelves(call);
        }
    }

    private void askLand(int call) {
        int a = upTo(35);
        int b = upTo(35);
        int pair = model.pairs(-1) > 0 ? model.pairs(below(model.pairs(-1))) : 0;
        int his = once(4) ? a : pair / 100;
        int hers = once(4) ? b : pair % 100;
        int n = upTo(10);
        int i = once(4) ? upTo(1300) : below(Math.max(1, model.pairs(-1) + 1)) - 1;
        int w1 = upTo(4);
        int w2 = upTo(4);
        int what = upTo(4);
        int who = upTo(1);
        switch (call) {
            case 0: both("land(" + w1 + ")", () -> real.land(w1), () -> model.land(w1)); break;
            case 1: both("ground(" + a + ", " + what + ")", () -> real.ground(a, what), () -> model.ground(a, what)); break;
            case 2: case 3:
                both("go(" + w1 + ", " + w2 + ")", () -> real.go(w1, w2), () -> model.go(w1, w2)); break;
            case 4: both("far(" + a + ", " + b + ")", () -> real.far(a, b), () -> model.far(a, b)); break;
            case 5: both("steps(" + a + ", " + b + ")", () -> real.steps(a, b), () -> model.steps(a, b)); break;
            case 6: both("pairs(" + i + ")", () -> real.pairs(i), () -> model.pairs(i)); break;
            case 7: both("islands()", real::islands, model::islands); break;
            case 8: both("island(" + a + ")", () -> real.island(a), () -> model.island(a)); break;
            case 9: both("middle(" + who + ")", () -> real.middle(who), () -> model.middle(who)); break;
            case 10: both("see(" + his + ", " + hers + ")", () -> real.see(his, hers), () -> model.see(his, hers)); break;
            case 11:
                both("way(" + his + ", " + hers + ", " + n + ")",
                    () -> real.way(his, hers, n), () -> model.way(his, hers, n));
                break;
            case 12: case 13:
                both("hinders(" + a + ", " + b + ")", () -> real.hinders(a, b), () -> model.hinders(a, b)); break;
            case 14:
                both("needs(" + his + ", " + hers + ")", () -> real.needs(his, hers), () -> model.needs(his, hers)); break;
            default: int days = upTo(40);
                both("within(" + days + ")", () -> real.within(days), () -> model.within(days)); break;
        }
    }

    private void askLetters(int call) {
        int a = upTo(35);
        int b = upTo(35);
        int n = upTo(10);
        int d = upTo(7);
        int who = upTo(1);
        int days = upTo(8);
        int v = upTo(20);
        int z = random.nextInt();
        int many = once(10) ? pick(0, 1, 20, 21) : 1 + below(20);
        switch (call) {
            case 16: both("ways(" + n + ")", () -> real.ways(n), () -> model.ways(n)); break;
            case 17: both("rounds(" + n + ")", () -> real.rounds(n), () -> model.rounds(n)); break;
            case 18: both("late(" + a + ", " + days + ")", () -> real.late(a, days), () -> model.late(a, days)); break;
            case 19: both("hisWay(" + d + ", " + who + ")", () -> real.hisWay(d, who), () -> model.hisWay(d, who)); break;
            case 20: both("letter(" + d + ")", () -> real.letter(d), () -> model.letter(d)); break;
            case 21: both("third(" + who + ")", () -> real.third(who), () -> model.third(who)); break;
            case 22: both("game(" + who + ")", () -> real.game(who), () -> model.game(who)); break;
            case 23:
                both("snow(" + a + ", " + b + ", " + who + ")",
                    () -> real.snow(a, b, who), () -> model.snow(a, b, who));
                break;
            case 24: both("mean(" + who + ")", () -> real.mean(who), () -> model.mean(who)); break;
            case 25: both("curve(" + v + ")", () -> real.curve(v), () -> model.curve(v)); break;
            default:
                both("seeds(" + many + ", " + z + ", " + who + ")",
                    () -> real.seeds(many, z, who), () -> model.seeds(many, z, who));
                break;
        }
    }

    /** A SHELF with a ROW of the SORT of that in SHELF d, if a few looks find one: to copy nothing there can be done. */
    private int likeShelf(int d) {
        int e = upTo(7);
        for (int look = 0; look < 8 && model.copy(d, 0, e, 0, 0) != 0; look++) {
            e = upTo(7);
        }
        return e;
    }

    private void askShelves(int call) {
        int d = call == 35 && !once(4) ? below(4) : upTo(7);
        int e = once(3) ? upTo(7) : likeShelf(d);
        int i = once(3) ? upTo(100) : upTo(6);
        int j = once(3) ? upTo(100) : upTo(6);
        int n = once(3) ? upTo(100) : upTo(4);
        switch (call) {
            case 27: both("judge(" + d + ")", () -> real.judge(d), () -> model.judge(d)); break;
            case 28: both("image()", real::image, model::image); break;
            case 29: both("restore()", real::restore, model::restore); break;
            case 30: count(upTo(8)); break;
            case 31: keep(d, upTo(1), upTo(7), upTo(9)); break;
            case 32: row(d, upTo(2), once(9) ? pick(99, 100, 101, -1) : i); break;
            case 33: put(d, i, once(2) ? random.nextInt() : below(256)); break;
            case 34: both("element(" + d + ", " + i + ")", () -> real.element(d, i), () -> model.element(d, i)); break;
            case 35:
                both("copy(" + d + ", " + i + ", " + e + ", " + j + ", " + n + ")",
                    () -> real.copy(d, i, e, j, n), () -> model.copy(d, i, e, j, n));
                break;
            default:
                both("cost(" + d + ")", () -> real.cost(d), () -> model.cost(d));
                both("toss(" + d + ")", () -> real.toss(d), () -> model.toss(d));
                break;
        }
    }
}
