import java.util.ArrayList;
import java.util.List;
import java.util.function.Supplier;
import java.util.function.ToLongFunction;

/** Sentences of the document that name boundary cases, each with a test of its own. */
abstract class Sentences {
    private static final long ILLEGAL_ARGUMENT = 2000000000001L;
    private static final long ILLEGAL_STATE = 2000000000002L;
    private static final long OTHER_THROWN = 2000000000003L;

    private final List<String> words = new ArrayList<>();
    private String sentence = "";
    private int wrong;

    abstract void all();

    final List<String> words() {
        return words;
    }

    final int wrong() {
        return wrong;
    }

    /** What an element that is not there is due to throw, as if it were an answer. */
    static long illegalArgument() {
        return ILLEGAL_ARGUMENT;
    }

    static long illegalState() {
        return ILLEGAL_STATE;
    }

    final void test(String sentence, Runnable test) {
        this.sentence = sentence;
        words.add(sentence);
        try {
            test.run();
        } catch (RuntimeException e) {
            tell("it throws " + e);
        }
    }

    final void due(String call, long got, long want) {
        if (got != want) {
            tell(call + " answered " + got + ", due is " + want);
        }
    }

    final void dueTexts(String call, String got, String want) {
        if (!got.equals(want)) {
            tell(call + ":\n    " + got + "\n    due is\n    " + want);
        }
    }

    private void tell(String what) {
        wrong++;
        System.out.println("\"" + sentence + "\": " + what);
    }

    static long answer(NineMilesOff x, ToLongFunction<NineMilesOff> call) {
        try {
            return call.applyAsLong(x);
        } catch (RuntimeException e) {
            return e.getClass() == IllegalArgumentException.class ? ILLEGAL_ARGUMENT
                : e.getClass() == IllegalStateException.class ? ILLEGAL_STATE : OTHER_THROWN;
        }
    }

    /** The call is refused, and nothing changes by it. */
    final void refused(Supplier<NineMilesOff> land, String call, ToLongFunction<NineMilesOff> asked, long want) {
        NineMilesOff x = land.get();
        due(call, answer(x, asked), want);
        dueTexts("all behind " + call, Lands.all(x), Lands.all(land.get()));
    }

    final void refused(String call, ToLongFunction<NineMilesOff> asked, long want) {
        refused(Lands::rich, call, asked, want);
    }

    /** The call is not refused (whatever it answers), but neither does it change anything. */
    final void onlyAsks(String call, ToLongFunction<NineMilesOff> asked) {
        NineMilesOff x = Lands.rich();
        answer(x, asked);
        dueTexts("all behind " + call, Lands.all(x), Lands.all(Lands.rich()));
    }
}
