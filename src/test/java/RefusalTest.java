import java.util.function.Consumer;
import java.util.function.ToIntFunction;

/**
 * The sentences under the promises that say what is thrown and when, in the document's order: each
 * cause in every state in which it can come up, and that the refused call changes nothing. What is
 * tested first is thrown even where a later cause is there too.
 */
final class RefusalTest {
    private static final State[] NOT_NEW = {
        State.USED, State.CROSSED, State.HOPELESS, State.FULL
    };
    private static final State[] WITH_MODEL = {State.USED, State.CROSSED, State.FULL};
    private static final int[] FAR = {Integer.MIN_VALUE, Integer.MAX_VALUE};

    public static void main(String[] args) {
        statesAreAsNamed();
        variableOfAWrongWidth();
        variableOfAFullObject();
        termOfAWrongKind();
        termOfWhatWasNotMade();
        termOfANumberOutOfItsWidth();
        termOfWidthsThatDoNotFit();
        termOfAWrongWay();
        termOfBitsOutOfTheWidth();
        termOfAFullObject();
        termHasNoUseForTheRest();
        formulaOfAWrongKind();
        formulaOfWhatWasNotMade();
        formulaOfWidthsThatDoNotFit();
        formulaOfNoSuchBit();
        formulaOfAFullObject();
        assertionRefused();
        pushRefused();
        popRefused();
        valueRefused();
        valueOfRefused();
        entailedRefused();
        fixedRefused();
        leastRefused();
        assumeRefused();
        blameRefused();
        countRefused();
        neverRefused();
        whatIsTestedFirst();
        allRefusedInARow();
        Expect.finish();
    }

    /** The tests below would be hollow if a state were not what it is said to be. */
    private static void statesAreAsNamed() {
        for (State state : NOT_NEW) {
            BitSolver x = state.make();
            Expect.answer(state + " check", state == State.HOPELESS ? 0 : 1, x::check);
            boolean fits = state == State.USED || state == State.FULL;
            Expect.answer(state + " attempt", fits ? 1 : 0, x::attempt);
            for (int i = 0; i <= 3; i++) {
                int term = i;
                String due = state == State.FULL ? "IllegalStateException" : "" + x.count(2);
                Expect.same(state + ": term " + i + " has bit " + i,
                        due, Expect.outcome(() -> x.formula(5, term, term)));
            }
        }
        int[] full = {6, 50, 50, 30, 5, 8, 10};
        BitSolver x = State.FULL.make();
        for (int i = 0; i < full.length; i++) {
            int what = i;
            Expect.answer("FULL count(" + i + ")", full[i], () -> x.count(what));
        }
    }

    private interface Cause {
        void refuse(String call, State state, ToIntFunction<BitSolver> run);
    }

    private static final Cause ARGUMENT = (call, state, run) ->
            Refusal.argument(state + ": " + call, state::make, run);
    private static final Cause STATE = (call, state, run) ->
            Refusal.state(state + ": " + call, state::make, run);
    private static final Cause ELEMENT = (call, state, run) ->
            Refusal.element(state + ": " + call, state::make, run);
    private static final Cause NO_MODEL = (call, state, run) ->
            Refusal.noModel(state + ": " + call, state::make, run);

    private static void in(State[] states, Cause cause, String call, ToIntFunction<BitSolver> run) {
        for (State state : states) {
            cause.refuse(call, state, run);
        }
    }

    /** Just below the numbers, and far below and far above; what is just above differs. */
    private static void eachNotMade(Consumer<Integer> test) {
        test.accept(-1);
        for (int far : FAR) {
            test.accept(far);
        }
    }

    /** Promise 2, "IllegalArgumentException: width not 1 .. 4." */
    private static void variableOfAWrongWidth() {
        int[] wrong = {-1, 0, 5, 6, Integer.MIN_VALUE, Integer.MAX_VALUE};
        for (int width : wrong) {
            in(State.values(), ARGUMENT, "variable(" + width + ")", x -> x.variable(width));
        }
    }

    /** Promise 2, "IllegalStateException: 6 were made, or there would be more than 10 bits." */
    private static void variableOfAFullObject() {
        for (int i = 1; i <= 4; i++) {
            int width = i;
            STATE.refuse("variable(" + width + ")", State.FULL, x -> x.variable(width));
        }
        BitSolver x = State.USED.make();
        Expect.answer("4 bits more are 10", 3, () -> x.variable(4));
        BitSolver y = State.USED.make();
        y.variable(1);
        Refusal.state("4 bits behind 7", RefusalTest::usedWith7Bits, z -> z.variable(4));
        Expect.answer("3 bits behind 7", 4, () -> y.variable(3));
        Refusal.state("1 bit behind 6 variables", RefusalTest::usedWith6Variables,
                z -> z.variable(1));
    }

    private static BitSolver usedWith7Bits() {
        BitSolver x = State.USED.make();
        x.variable(1);
        return x;
    }

    private static BitSolver usedWith6Variables() {
        BitSolver x = State.USED.make();
        for (int i = 3; i < 6; i++) {
            x.variable(1);
        }
        return x;
    }

    /** Promise 3, "IllegalArgumentException: kind not 0 .. 14" */
    private static void termOfAWrongKind() {
        int[] wrong = {-1, 15, 16, Integer.MIN_VALUE, Integer.MAX_VALUE};
        for (int kind : wrong) {
            in(State.values(), ARGUMENT, "term of kind " + kind, x -> x.term(kind, 0, 1, 1));
        }
    }

    /** Promise 3, "what is named was not made" */
    private static void termOfWhatWasNotMade() {
        termNotNaming(1, 0, 0);
        for (int kind = 2; kind <= 7; kind++) {
            termNotNaming(kind, 0, 1);
            termNotNaming(kind, 1, 1);
        }
        for (int kind = 8; kind <= 11; kind++) {
            termNotNaming(kind, 0, 1);
        }
        termNotNaming(12, 0, 2);
        termNotNaming(12, 1, 1);
        termNotNaming(12, 2, 1);
        termNotNaming(13, 0, 1);
        termNotNaming(13, 1, 1);
        termNotNaming(14, 0, 1);
        termsOfNothing();
    }

    /** All else fits, but the argument at a place names nothing; what tells count's question. */
    private static void termNotNaming(int kind, int place, int what) {
        eachNotMade(number -> {
            int[] with = State.termArguments(kind);
            with[place] = number;
            in(NOT_NEW, ARGUMENT, "term of kind " + kind + " with " + number + " at " + place,
                    x -> x.term(kind, with[0], with[1], with[2]));
        });
        for (State state : NOT_NEW) {
            int[] with = State.termArguments(kind);
            with[place] = state.make().count(what);
            ARGUMENT.refuse("term of kind " + kind + " with the next at " + place, state,
                    x -> x.term(kind, with[0], with[1], with[2]));
        }
    }

    private static void termsOfNothing() {
        for (int i = 1; i <= 14; i++) {
            int kind = i;
            ARGUMENT.refuse("term of kind " + kind + " of nothing", State.NEW,
                    x -> x.term(kind, 0, 0, 0));
            in(NOT_NEW, ARGUMENT, "term of kind " + kind + " of -1 alone",
                    x -> x.term(kind, -1, -1, -1));
            in(NOT_NEW, ARGUMENT, "term of kind " + kind + " of 50 alone",
                    x -> x.term(kind, 50, 50, 50));
        }
    }

    /** Promise 3, "a number out of its width, or a width not 1 .. 4" */
    private static void termOfANumberOutOfItsWidth() {
        for (int i = 1; i <= 4; i++) {
            int width = i;
            int[] wrong = {-1, 1 << width, -(1 << width), Integer.MIN_VALUE, Integer.MAX_VALUE};
            for (int number : wrong) {
                in(State.values(), ARGUMENT, "number " + number + " of width " + width,
                        x -> x.term(0, number, width, 0));
            }
        }
        int[] wrong = {-1, 0, 5, 31, 32, 33, 36, Integer.MIN_VALUE, Integer.MAX_VALUE};
        for (int width : wrong) {
            in(State.values(), ARGUMENT, "number 0 of width " + width, x -> x.term(0, 0, width, 0));
            in(State.values(), ARGUMENT, "number 1 of width " + width, x -> x.term(0, 1, width, 0));
        }
    }

    /** Promise 3, "widths that do not fit" */
    private static void termOfWidthsThatDoNotFit() {
        for (int i = 2; i <= 7; i++) {
            int kind = i;
            in(NOT_NEW, ARGUMENT, "term of kind " + kind + " of the widths 1 and 2",
                    x -> x.term(kind, 0, 1, 0));
            in(NOT_NEW, ARGUMENT, "term of kind " + kind + " of the widths 4 and 3",
                    x -> x.term(kind, 3, 2, 0));
        }
        in(NOT_NEW, ARGUMENT, "choice of the widths 1 and 2", x -> x.term(12, 0, 0, 1));
        in(NOT_NEW, ARGUMENT, "choice of the widths 4 and 3", x -> x.term(12, 0, 3, 2));
        in(NOT_NEW, ARGUMENT, "2 and 3 bits joined", x -> x.term(13, 1, 2, 0));
        in(NOT_NEW, ARGUMENT, "4 and 1 bits joined", x -> x.term(13, 3, 0, 0));
        in(NOT_NEW, ARGUMENT, "4 and 4 bits joined", x -> x.term(13, 3, 3, 0));
    }

    /** Promise 3, "a way not 0 .. 4" */
    private static void termOfAWrongWay() {
        int[] wrong = {-1, 5, 6, 32, Integer.MIN_VALUE, Integer.MAX_VALUE};
        for (int i = 9; i <= 11; i++) {
            int kind = i;
            for (int way : wrong) {
                in(NOT_NEW, ARGUMENT, "kind " + kind + " by " + way, x -> x.term(kind, 3, way, 0));
            }
            BitSolver x = State.USED.make();
            Expect.answer("kind " + kind + " by 0", 8, () -> x.term(kind, 0, 0, 0));
            Expect.answer("kind " + kind + " by 4", 9, () -> x.term(kind, 0, 4, 0));
        }
    }

    /** Promise 3, "bits out of the width or b above c" */
    private static void termOfBitsOutOfTheWidth() {
        int[][] wrong = {
            {0, 3}, {2, 3}, {3, 3}, {-1, 0}, {-1, 2}, {-1, -1}, {1, 0}, {2, 1}, {2, 0}, {3, 2},
            {0, Integer.MAX_VALUE}, {Integer.MIN_VALUE, 0}, {Integer.MAX_VALUE, 0},
            {0, Integer.MIN_VALUE}, {Integer.MIN_VALUE, Integer.MAX_VALUE}
        };
        for (int[] bits : wrong) {
            in(NOT_NEW, ARGUMENT, "bits " + bits[0] + " to " + bits[1] + " of 3",
                    x -> x.term(14, 2, bits[0], bits[1]));
        }
    }

    /** Promise 3, "IllegalStateException: 50 were made." */
    private static void termOfAFullObject() {
        for (int i = 0; i <= 14; i++) {
            int kind = i;
            int[] with = State.termArguments(kind);
            STATE.refuse("term of kind " + kind, State.FULL,
                    x -> x.term(kind, with[0], with[1], with[2]));
        }
    }

    /** Promise 3, "What a kind has no use for may be anything." */
    private static void termHasNoUseForTheRest() {
        int[] used = {2, 1, 2, 2, 2, 2, 2, 2, 1, 2, 2, 2, 3, 2, 3};
        int[] anything = {-1, 5, 50, Integer.MIN_VALUE, Integer.MAX_VALUE};
        for (int i = 0; i <= 14; i++) {
            int kind = i;
            for (int free : anything) {
                int[] with = State.termArguments(kind);
                BitSolver plain = State.USED.make();
                int due = plain.term(kind, with[0], with[1], with[2]);
                for (int place = used[kind]; place < 3; place++) {
                    with[place] = free;
                }
                BitSolver x = State.USED.make();
                String call = "term of kind " + kind + " with " + free + " for no use";
                Expect.answer(call, due, () -> x.term(kind, with[0], with[1], with[2]));
                Refusal.alike(call + " is the same term", plain, x);
            }
        }
    }

    /** Promise 4, "IllegalArgumentException: kind not 0 .. 10" */
    private static void formulaOfAWrongKind() {
        int[] wrong = {-1, 11, 12, Integer.MIN_VALUE, Integer.MAX_VALUE};
        for (int kind : wrong) {
            in(State.values(), ARGUMENT, "formula of kind " + kind, x -> x.formula(kind, 0, 0));
        }
    }

    /** Promise 4, "what is named was not made" */
    private static void formulaOfWhatWasNotMade() {
        for (int kind = 0; kind <= 10; kind++) {
            formulaNotNaming(kind, 0, kind <= 5 ? 1 : 2);
            if (kind <= 4 || kind >= 7) {
                formulaNotNaming(kind, 1, kind <= 5 ? 1 : 2);
            }
        }
        for (int i = 0; i <= 10; i++) {
            int kind = i;
            ARGUMENT.refuse("formula of kind " + kind + " of nothing", State.NEW,
                    x -> x.formula(kind, 0, 0));
            in(NOT_NEW, ARGUMENT, "formula of kind " + kind + " of -1 alone",
                    x -> x.formula(kind, -1, -1));
            in(NOT_NEW, ARGUMENT, "formula of kind " + kind + " of 50 alone",
                    x -> x.formula(kind, 50, 50));
        }
    }

    private static void formulaNotNaming(int kind, int place, int what) {
        eachNotMade(number -> {
            int[] with = State.formulaArguments(kind);
            with[place] = number;
            in(NOT_NEW, ARGUMENT, "formula of kind " + kind + " with " + number + " at " + place,
                    x -> x.formula(kind, with[0], with[1]));
        });
        for (State state : NOT_NEW) {
            int[] with = State.formulaArguments(kind);
            with[place] = state.make().count(what);
            ARGUMENT.refuse("formula of kind " + kind + " with the next at " + place, state,
                    x -> x.formula(kind, with[0], with[1]));
        }
    }

    /** Promise 4, "widths that do not fit" */
    private static void formulaOfWidthsThatDoNotFit() {
        for (int i = 0; i <= 4; i++) {
            int kind = i;
            in(NOT_NEW, ARGUMENT, "formula of kind " + kind + " of the widths 1 and 2",
                    x -> x.formula(kind, 0, 1));
            in(NOT_NEW, ARGUMENT, "formula of kind " + kind + " of the widths 4 and 3",
                    x -> x.formula(kind, 3, 2));
        }
    }

    /** Promise 4, "no such bit" */
    private static void formulaOfNoSuchBit() {
        int[] wrong = {-1, 3, 4, Integer.MIN_VALUE, Integer.MAX_VALUE};
        for (int bit : wrong) {
            in(NOT_NEW, ARGUMENT, "bit " + bit + " of 3", x -> x.formula(5, 2, bit));
        }
    }

    /** Promise 4, "IllegalStateException: 50 were made." */
    private static void formulaOfAFullObject() {
        for (int i = 0; i <= 10; i++) {
            int kind = i;
            int[] with = State.formulaArguments(kind);
            STATE.refuse("formula of kind " + kind, State.FULL,
                    x -> x.formula(kind, with[0], with[1]));
        }
    }

    private interface Question {
        int of(BitSolver x, int number);
    }

    /** "NoSuchElementException: it was not made", or "no such variable"; the next is the count. */
    private static void ofNone(String name, int what, Question ask) {
        eachNotMade(number ->
                in(State.values(), ELEMENT, name + "(" + number + ")", x -> ask.of(x, number)));
        for (State state : State.values()) {
            int next = state.make().count(what);
            ELEMENT.refuse(name + "(" + next + "), the next", state, x -> ask.of(x, next));
        }
    }

    /** "UnsupportedOperationException: there is no model", for the first and the last made. */
    private static void withoutModel(String name, int what, Question ask) {
        int last = State.HOPELESS.make().count(what) - 1;
        NO_MODEL.refuse(name + "(0)", State.HOPELESS, x -> ask.of(x, 0));
        NO_MODEL.refuse(name + "(" + last + ")", State.HOPELESS, x -> ask.of(x, last));
        BitSolver x = State.HOPELESS.make();
        x.pop();
        BitSolver y = State.USED.make();
        y.pop();
        Expect.answer(name + " behind pop, as if there had always been a model",
                ask.of(y, last), () -> ask.of(x, last));
    }

    /** The first and the last that were made are answered. */
    private static void ofTheOutermost(String name, int what, Question ask) {
        for (State state : WITH_MODEL) {
            BitSolver x = state.make();
            int last = x.count(what) - 1;
            String first = Expect.outcome(() -> ask.of(x, 0));
            String second = Expect.outcome(() -> ask.of(x, last));
            boolean answered = !first.endsWith("Exception") && !second.endsWith("Exception");
            Expect.same(state + ": " + name + " of 0 and " + last, "true", "" + answered);
        }
    }

    /** Promise 5, "NoSuchElementException: it was not made. IllegalStateException: 30 are." */
    private static void assertionRefused() {
        ofNone("assertion", 2, BitSolver::assertion);
        STATE.refuse("assertion(0)", State.FULL, x -> x.assertion(0));
        STATE.refuse("assertion(3), against all others", State.FULL, x -> x.assertion(3));
        STATE.refuse("assertion(49)", State.FULL, x -> x.assertion(49));
    }

    /** Promise 6, "IllegalStateException: 5 others are open." */
    private static void pushRefused() {
        STATE.refuse("push()", State.FULL, BitSolver::push);
    }

    /** Promise 7, "IllegalStateException: there is only level 0." */
    private static void popRefused() {
        STATE.refuse("pop()", State.NEW, BitSolver::pop);
        for (State state : NOT_NEW) {
            Refusal.state(state + " at level 0: pop()", () -> atLevel0(state), BitSolver::pop);
        }
    }

    private static BitSolver atLevel0(State state) {
        BitSolver x = state.make();
        for (int level = x.count(4); level > 0; level--) {
            x.pop();
        }
        return x;
    }

    /** Promise 9, "no such variable", "there is no model" */
    private static void valueRefused() {
        ofNone("value", 0, BitSolver::value);
        withoutModel("value", 0, BitSolver::value);
        ofTheOutermost("value", 0, BitSolver::value);
    }

    /** Promise 10, "it was not made", "there is no model" */
    private static void valueOfRefused() {
        ofNone("valueOf", 1, BitSolver::valueOf);
        withoutModel("valueOf", 1, BitSolver::valueOf);
        ofTheOutermost("valueOf", 1, BitSolver::valueOf);
    }

    /** Promise 11, "it was not made", "there is no model" */
    private static void entailedRefused() {
        ofNone("entailed", 2, BitSolver::entailed);
        withoutModel("entailed", 2, BitSolver::entailed);
        ofTheOutermost("entailed", 2, BitSolver::entailed);
    }

    /** Promise 12, "no such variable", "there is no model" */
    private static void fixedRefused() {
        ofNone("fixed", 0, BitSolver::fixed);
        withoutModel("fixed", 0, BitSolver::fixed);
        ofTheOutermost("fixed", 0, BitSolver::fixed);
    }

    /** Promise 13, "it was not made", "there is no model" */
    private static void leastRefused() {
        ofNone("least", 1, BitSolver::least);
        withoutModel("least", 1, BitSolver::least);
        ofTheOutermost("least", 1, BitSolver::least);
    }

    /** Promise 14, "it was not made", "IllegalStateException: 8 are there." */
    private static void assumeRefused() {
        ofNone("assume", 2, BitSolver::assume);
        STATE.refuse("assume(0)", State.FULL, x -> x.assume(0));
        STATE.refuse("assume(3), against the others", State.FULL, x -> x.assume(3));
        STATE.refuse("assume(49)", State.FULL, x -> x.assume(49));
    }

    /** Promise 17, "IllegalStateException: attempt would answer 1." */
    private static void blameRefused() {
        STATE.refuse("blame()", State.NEW, BitSolver::blame);
        STATE.refuse("blame()", State.USED, BitSolver::blame);
        STATE.refuse("blame()", State.FULL, BitSolver::blame);
        Expect.answer("CROSSED: blame()", 5, State.CROSSED.make()::blame);
        Expect.answer("HOPELESS: blame()", 0, State.HOPELESS.make()::blame);
    }

    /** Promise 18, "IllegalArgumentException: another number." */
    private static void countRefused() {
        int[] wrong = {-1, 7, 8, Integer.MIN_VALUE, Integer.MAX_VALUE};
        for (int what : wrong) {
            in(State.values(), ARGUMENT, "count(" + what + ")", x -> x.count(what));
        }
    }

    /** Promises 8, 15 and 16 name nothing that is thrown. */
    private static void neverRefused() {
        int[] cleared = {0, 2, 3, 2, 8};
        for (State state : State.values()) {
            BitSolver x = state.make();
            boolean fits = state != State.CROSSED && state != State.HOPELESS;
            Expect.answer(state + ": check()", state == State.HOPELESS ? 0 : 1, x::check);
            Expect.answer(state + ": attempt()", fits ? 1 : 0, x::attempt);
            Expect.answer(state + ": clear()", cleared[state.ordinal()], x::clear);
            Expect.answer(state + ": clear() of none", 0, x::clear);
            Expect.answer(state + ": attempt() without assumptions",
                    state == State.HOPELESS ? 0 : 1, x::attempt);
        }
    }

    /** "What is thrown is told in the order of testing": here both causes are there. */
    private static void whatIsTestedFirst() {
        ARGUMENT.refuse("variable, no width and no room", State.FULL, x -> x.variable(0));
        ARGUMENT.refuse("term, no kind and no room", State.FULL, x -> x.term(15, 0, 0, 0));
        ARGUMENT.refuse("term, of itself and no room", State.FULL, x -> x.term(8, 50, 0, 0));
        ARGUMENT.refuse("formula, no kind and no room", State.FULL, x -> x.formula(11, 0, 0));
        ARGUMENT.refuse("formula, of itself and no room", State.FULL, x -> x.formula(6, 50, 0));
        ELEMENT.refuse("assertion, not made and no room", State.FULL, x -> x.assertion(50));
        ELEMENT.refuse("assume, not made and no room", State.FULL, x -> x.assume(50));
        ELEMENT.refuse("value, none and no model", State.HOPELESS, x -> x.value(3));
        ELEMENT.refuse("valueOf, not made and no model", State.HOPELESS, x -> x.valueOf(8));
        ELEMENT.refuse("entailed, not made and no model", State.HOPELESS, x -> x.entailed(6));
        ELEMENT.refuse("fixed, none and no model", State.HOPELESS, x -> x.fixed(3));
        ELEMENT.refuse("least, not made and no model", State.HOPELESS, x -> x.least(8));
    }

    /** "a call that throws changes nothing": nor do many, one behind the other. */
    private static void allRefusedInARow() {
        for (State state : State.values()) {
            BitSolver asked = state.make();
            for (int i = 0; i < 4; i++) {
                oneOfEach(asked, i);
            }
            Refusal.alike(state + ": all that is refused", state.make(), asked);
        }
    }

    private static void oneOfEach(BitSolver x, int i) {
        int none = i % 2 == 0 ? -1 : 50;
        Expect.thrown("variable", IllegalArgumentException.class, () -> x.variable(5 * (i % 2)));
        Expect.thrown("term", IllegalArgumentException.class, () -> x.term(i, none, none, none));
        Expect.thrown("formula", IllegalArgumentException.class, () -> x.formula(i, none, none));
        Expect.thrown("count", IllegalArgumentException.class, () -> x.count(7 + i));
        String element = "NoSuchElementException";
        Expect.same("assertion", element, Expect.outcome(() -> x.assertion(none)));
        Expect.same("value", element, Expect.outcome(() -> x.value(none)));
        Expect.same("valueOf", element, Expect.outcome(() -> x.valueOf(none)));
        Expect.same("entailed", element, Expect.outcome(() -> x.entailed(none)));
        Expect.same("fixed", element, Expect.outcome(() -> x.fixed(none)));
        Expect.same("least", element, Expect.outcome(() -> x.least(none)));
        Expect.same("assume", element, Expect.outcome(() -> x.assume(none)));
    }
}
