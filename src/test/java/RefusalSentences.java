import java.util.function.ToLongFunction;

/** What holds of all calls: REFUSALS and their order, nothing else that changes, 512 calls. */
final class RefusalSentences extends Sentences {
    @Override
    void all() {
        test("REFUSALS (answers; nothing changes): -1 no such one, a number out of its range", this::minusOneFirst);
        test("-3 it is not as it must be (HE or SHE is nowhere, where both are wanted)", this::minusThree);
        test("-3 it is not as it must be (HE or SHE is nowhere, where both are wanted); -4 none.", this::minusFour);
        test("Answers of several REFUSALS are the first one as they are told at the call.", this::ofSeveral);
        test("Of longs -1 is -1000000001, -3 -1000000003.", this::ofLongs);
        test("-11 nothing is held where something is wanted", this::nothingHeld);
        test("-12 it is of another kind", this::otherKind);
        test("Nothing is promised beyond the answers and state changes described above", this::asking);
        test("An object is used for at most 512 calls after it has been made", this::manyCalls);
    }

    private static NineMilesOff nobodyOnFirstDay() {
        NineMilesOff x = new NineMilesOff();
        x.keep(3, 1, 2, 4);
        Lands.lay(x, 5, 0, 35);
        return x;
    }

    private void nowhere(String call, ToLongFunction<NineMilesOff> asked, long want) {
        refused(RefusalSentences::nobodyOnFirstDay, call, asked, want);
    }

    private void minusOneFirst() {
        nowhere("stands(2, 35)", x -> x.stands(2, 35), -1);
        nowhere("stands(0, 36)", x -> x.stands(0, 36), -1);
        nowhere("go(5, 0)", x -> x.go(5, 0), -1);
        nowhere("go(0, -1)", x -> x.go(0, -1), -1);
        nowhere("see(36, 0)", x -> x.see(36, 0), -1);
        nowhere("see(0, -1)", x -> x.see(0, -1), -1);
        nowhere("way(0, 3, -1)", x -> x.way(0, 3, -1), -1);
        nowhere("way(36, 3, 0)", x -> x.way(36, 3, 0), -1);
        nowhere("hinders(0, 36)", x -> x.hinders(0, 36), -1);
        nowhere("needs(-1, 0)", x -> x.needs(-1, 0), -1);
        nowhere("within(41)", x -> x.within(41), -1);
        nowhere("ways(11)", x -> x.ways(11), -1000000001L);
        nowhere("rounds(-1)", x -> x.rounds(-1), -1000000001L);
        nowhere("late(36, 0)", x -> x.late(36, 0), -1);
        nowhere("late(35, 9)", x -> x.late(35, 9), -1);
        nowhere("third(2)", x -> x.third(2), -1);
        nowhere("game(-1)", x -> x.game(-1), -1);
        nowhere("judge(8)", x -> x.judge(8), -1);
        nowhere("seeds(0, 1, 0)", x -> x.seeds(0, 1, 0), -1);
        nowhere("seeds(1, 1, 2)", x -> x.seeds(1, 1, 2), -1);
        refused(ChanceSentences::deepSnow, "snow(0, 1, 2)", x -> x.snow(0, 1, 2), -1000000001L);
        refused(ChanceSentences::deepSnow, "snow(0, 36, 0)", x -> x.snow(0, 36, 0), -1000000001L);
        refused(() -> Lands.lastDay(Lands.rich()), "go(5, 0) on the last DAY", x -> x.go(5, 0), -1);
    }

    private void minusThree() {
        for (int who = 0; who < 3; who++) {
            NineMilesOff x = who == 0 ? Lands.nobody() : who == 1 ? Lands.heAlone() : Lands.sheAlone();
            due("go", x.go(0, 0), -3);
            due("see", x.see(0, 3), -3);
            due("way", x.way(0, 3, 0), -3);
            due("hinders", x.hinders(0, 3), -3);
            due("needs", x.needs(0, 3), -3);
            due("within", x.within(0), -3);
            due("ways", x.ways(0), -1000000003L);
            due("rounds", x.rounds(0), -1000000003L);
            due("third", x.third(0), -3);
            due("game", x.game(0), -3);
            due("seeds", x.seeds(1, 0, 0), -3);
        }
        NineMilesOff x = Lands.nobody();
        due("steps does not want them", x.steps(0, 1), 1);
        due("pairs does not", x.pairs(0) >= 0 ? 1 : 0, 1);
        due("mean does not", x.mean(1) > 0 ? 1 : 0, 1);
        due("curve does not", x.curve(20) > 0 ? 1 : 0, 1);
        due("hisWay does not", x.hisWay(1, 1) >= 0 ? 1 : 0, 1);
        due("letter does not", x.letter(1) >= -4 ? 1 : 0, 1);
        due("middle does not", x.middle(0) >= 0 ? 1 : 0, 1);
    }

    private void minusFour() {
        NineMilesOff x = Lands.put(Lands.plains(11, 10), 0, 35);
        Lands.numbers(x, 0, 1, 0);
        due("steps", Lands.only(0, 20, 0, 2).steps(0, 2), -4);
        due("pairs", x.pairs(0), -4);
        due("middle", Lands.only(0, 20).middle(0), -4);
        due("see", x.see(0, 35), -4);
        due("way", x.way(0, 35, 0), -4);
        due("hinders", x.hinders(0, 35), -4);
        due("needs", x.needs(0, 35), -4);
        due("letter", x.letter(0), -4);
        due("third", x.third(1), -4);
        due("game", Lands.put(Lands.only(0, 20, 0, 1), 0, 0).game(0), -4);
        due("judge", x.judge(0), -4);
        due("stands", new NineMilesOff().stands(0, 0), -4);
        due("count", new NineMilesOff().count(0), -4);
    }

    private void ofSeveral() {
        refused("lays(4, 36)", x -> x.lays(4, 36), -1);
        refused("lays(1, -1)", x -> x.lays(1, -1), -1);
        refused("stands(-1, 35)", x -> x.stands(-1, 35), -1);
        refused("hisWay(4, 2)", x -> x.hisWay(4, 2), -1000000001L);
        refused("hisWay(3, 2)", x -> x.hisWay(3, 2), -1000000001L);
        refused("hisWay(5, -1)", x -> x.hisWay(5, -1), -1000000001L);
        refused("row(8, 0, -1)", x -> x.row(8, 0, -1), -1);
        refused("row(0, 3, -1)", x -> x.row(0, 3, -1), -1);
        refused("row(0, -1, -1)", x -> x.row(0, -1, -1), -1);
        refused("put(4, -1, 0)", x -> x.put(4, -1, 0), -11);
        refused("put(3, 100, 0)", x -> x.put(3, 100, 0), -12);
        refused("put(8, -1, 0)", x -> x.put(8, -1, 0), -1);
        refused("copy(4, -1, 8, 0, -1)", x -> x.copy(4, -1, 8, 0, -1), -1);
        refused("copy(3, -1, 4, 0, -1)", x -> x.copy(3, -1, 4, 0, -1), -11);
        refused("copy(4, 0, 3, 0, 0)", x -> x.copy(4, 0, 3, 0, 0), -11);
        refused("copy(3, -1, 1, 0, 0)", x -> x.copy(3, -1, 1, 0, 0), -12);
        refused("copy(0, 0, 1, 9, -1)", x -> x.copy(0, 0, 1, 9, -1), -12);
        refused("element(8, -1)", x -> x.element(8, -1), illegalArgument());
        refused("keep(8, 2, 9, 9)", x -> x.keep(8, 2, 9, 9), -1);
        refused(Lands::nobody, "judge(4) of nobody", x -> x.judge(4), -3);
        refused(Lands::nobody, "judge(3) of nobody", x -> x.judge(3), -3);
        refused(Lands::nobody, "late(35, 0) of nobody", x -> x.late(35, 0), -3);
    }

    private void ofLongs() {
        refused("ways(-1)", x -> x.ways(-1), -1000000001L);
        refused("rounds(11)", x -> x.rounds(11), -1000000001L);
        refused("hisWay(-1, 0)", x -> x.hisWay(-1, 0), -1000000001L);
        refused("hisWay(4, 0)", x -> x.hisWay(4, 0), -1000000011L);
        refused("hisWay(3, 0)", x -> x.hisWay(3, 0), -1000000012L);
        refused("hisWay(6, 0)", x -> x.hisWay(6, 0), -1000000013L);
        refused("snow(0, 0, 2)", x -> x.snow(0, 0, 2), -1000000001L);
        refused("mean(2)", x -> x.mean(2), -1000000001L);
        refused(Lands::nobody, "ways(0)", x -> x.ways(0), -1000000003L);
        refused(Lands::nobody, "rounds(0)", x -> x.rounds(0), -1000000003L);
        refused(ChanceSentences::deepSnow, "snow(0, 0, 0)", x -> x.snow(0, 0, 0), -1000000003L);
    }

    private void nothingHeld() {
        refused("land(4)", x -> x.land(4), -11);
        refused("lays(4, 0)", x -> x.lays(4, 0), -11);
        refused("letter(4)", x -> x.letter(4), -11);
        refused("judge(4)", x -> x.judge(4), -11);
        refused("put(4, 0, 0)", x -> x.put(4, 0, 0), -11);
        refused("copy(4, 0, 1, 0, 0)", x -> x.copy(4, 0, 1, 0, 0), -11);
        refused("copy(1, 0, 4, 0, 0)", x -> x.copy(1, 0, 4, 0, 0), -11);
        refused("cost(4)", x -> x.cost(4), -11);
        refused("toss(4)", x -> x.toss(4), -11);
    }

    private void otherKind() {
        refused("land(1)", x -> x.land(1), -12);
        refused("land(3)", x -> x.land(3), -12);
        refused("lays(0, 0)", x -> x.lays(0, 0), -12);
        refused("letter(3)", x -> x.letter(3), -12);
        refused("judge(3)", x -> x.judge(3), -12);
        refused("put(3, 0, 0)", x -> x.put(3, 0, 0), -12);
        refused("copy(1, 0, 2, 0, 0)", x -> x.copy(1, 0, 2, 0, 0), -12);
        refused("cost(1)", x -> x.cost(1), -12);
        refused("toss(2)", x -> x.toss(2), -12);
    }

    private void asking() {
        onlyAsks("ground(3, 2)", x -> x.ground(3, 2));
        onlyAsks("far(0, 35)", x -> x.far(0, 35));
        onlyAsks("steps(0, 35)", x -> x.steps(0, 35));
        onlyAsks("pairs(-1)", x -> x.pairs(-1));
        onlyAsks("pairs(7)", x -> x.pairs(7));
        onlyAsks("islands()", x -> x.islands());
        onlyAsks("island(0)", x -> x.island(0));
        onlyAsks("middle(0)", x -> x.middle(0));
        onlyAsks("see(30, 33)", x -> x.see(30, 33));
        onlyAsks("way(30, 33, 2)", x -> x.way(30, 33, 2));
        onlyAsks("hinders(30, 35)", x -> x.hinders(30, 35));
        onlyAsks("needs(30, 33)", x -> x.needs(30, 33));
        onlyAsks("within(9)", x -> x.within(9));
        onlyAsks("ways(9)", x -> x.ways(9));
        onlyAsks("rounds(9)", x -> x.rounds(9));
        onlyAsks("late(0, 3)", x -> x.late(0, 3));
        onlyAsks("hisWay(1, 0)", x -> x.hisWay(1, 0));
        onlyAsks("letter(1)", x -> x.letter(1));
        onlyAsks("third(1)", x -> x.third(1));
        onlyAsks("game(0)", x -> x.game(0));
        onlyAsks("snow(0, 34, 0)", x -> x.snow(0, 34, 0));
        onlyAsks("mean(0)", x -> x.mean(0));
        onlyAsks("curve(2)", x -> x.curve(2));
        onlyAsks("judge(1)", x -> x.judge(1));
        onlyAsks("seeds(3, 3, 0)", x -> x.seeds(3, 3, 0));
        onlyAsks("count(8)", x -> x.count(8));
        onlyAsks("element(1, 0)", x -> x.element(1, 0));
        onlyAsks("cost(3)", x -> x.cost(3));
        onlyAsks("toss(3)", x -> x.toss(3));
    }

    private void manyCalls() {
        NineMilesOff x = new NineMilesOff();
        x.stands(0, 14);
        x.stands(1, 15);
        for (int call = 3; call <= 510; call++) {
            due("call " + call, x.go(0, 0), 1);
        }
        due("call 511", x.count(2), 508);
        due("call 512", x.count(3), 508);
    }
}
