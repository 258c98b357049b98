import java.util.ArrayList;
import java.util.List;
import java.util.NoSuchElementException;
import java.util.function.IntSupplier;
import java.util.function.Supplier;
import java.util.function.ToIntFunction;

/**
 * Calls that are to be refused, and that they change nothing: a twin that is made alike, but
 * spared the call, must go on to give the same answers to all that can be asked, and take in as
 * much more. No object is used for more than 512 calls.
 */
final class Refusal {
    private static final int ENOUGH = 60;

    private Refusal() {
    }

    static void argument(String call, Supplier<BitSolver> state, ToIntFunction<BitSolver> run) {
        refused(call, IllegalArgumentException.class, state, run);
    }

    static void state(String call, Supplier<BitSolver> state, ToIntFunction<BitSolver> run) {
        refused(call, IllegalStateException.class, state, run);
    }

    static void element(String call, Supplier<BitSolver> state, ToIntFunction<BitSolver> run) {
        refused(call, NoSuchElementException.class, state, run);
    }

    static void noModel(String call, Supplier<BitSolver> state, ToIntFunction<BitSolver> run) {
        refused(call, UnsupportedOperationException.class, state, run);
    }

    private static void refused(String call, Class<? extends RuntimeException> want,
            Supplier<BitSolver> state, ToIntFunction<BitSolver> run) {
        BitSolver asked = state.get();
        Expect.thrown(call, want, () -> run.applyAsInt(asked));
        alike(call + " changes nothing", state.get(), asked);
    }

    /** Uses both objects up: whatever can be asked of them and put into them is answered alike. */
    static void alike(String what, BitSolver spared, BitSolver asked) {
        List<String> want = transcript(spared);
        List<String> got = transcript(asked);
        int same = 0;
        while (same < want.size() - 1 && same < got.size() - 1
                && want.get(same).equals(got.get(same))) {
            same++;
        }
        Expect.same(what, want.get(same), got.get(same));
    }

    private static List<String> transcript(BitSolver x) {
        List<String> said = new ArrayList<>();
        look(said, x);
        for (int i = 0; i <= 5; i++) {
            say(said, "pop()", x::pop);
            say(said, "blame()", x::blame);
            values(said, x);
        }
        say(said, "clear()", x::clear);
        fill(said, x);
        values(said, x);
        return said;
    }

    private static String say(List<String> said, String call, IntSupplier run) {
        String answer = Expect.outcome(run);
        said.add(call + " answers " + answer);
        return answer;
    }

    private static void look(List<String> said, BitSolver x) {
        for (int i = 0; i <= 6; i++) {
            int what = i;
            say(said, "count(" + i + ")", () -> x.count(what));
        }
        say(said, "attempt()", x::attempt);
        say(said, "blame()", x::blame);
        values(said, x);
        eachMade(said, "fixed", x::fixed);
        eachMade(said, "valueOf", x::valueOf);
        eachMade(said, "least", x::least);
        eachMade(said, "entailed", x::entailed);
    }

    private static void values(List<String> said, BitSolver x) {
        say(said, "check()", x::check);
        eachMade(said, "value", x::value);
    }

    private interface Question {
        int of(int number);
    }

    /** Goes on to the first number that was not made, or to the first if there is no model. */
    private static void eachMade(List<String> said, String name, Question ask) {
        String answer = "";
        for (int i = 0; i < ENOUGH && !answer.endsWith("Exception"); i++) {
            int number = i;
            answer = say(said, name + "(" + i + ")", () -> ask.of(number));
        }
    }

    private static void fill(List<String> said, BitSolver x) {
        untilRefused(said, "variable(1)", () -> x.variable(1));
        untilRefused(said, "term(0, 1, 1, 0)", () -> x.term(0, 1, 1, 0));
        untilRefused(said, "formula(0, 0, 0)", () -> x.formula(0, 0, 0));
        untilRefused(said, "push()", x::push);
        untilRefused(said, "assertion(0)", () -> x.assertion(0));
        untilRefused(said, "assume(0)", () -> x.assume(0));
    }

    private static void untilRefused(List<String> said, String call, IntSupplier run) {
        String answer = "";
        for (int i = 0; i < ENOUGH && !answer.endsWith("Exception"); i++) {
            answer = say(said, call, run);
        }
    }
}
