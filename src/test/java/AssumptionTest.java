/** Promises 14 (assume), 15 (clear), 16 (attempt) and 17 (blame). */
final class AssumptionTest {
    private static final Class<IllegalStateException> STATE = IllegalStateException.class;

    public static void main(String[] args) {
        assumeAnswersHowMany();
        clearTakesAll();
        attemptNeedsAll();
        attemptMindsAssertions();
        blameOfNothing();
        blameWithoutAssumptions();
        blameWithoutAnyModel();
        blameLeavesTheFirstOut();
        blameOfEqualOnes();
        blameOfFour();
        blameMindsAssertions();
        blameOfAllEight();
        blameChangesNothing();
        Expect.finish();
    }

    private static BitSolver numbers() {
        return numbersOf(4);
    }

    /** One variable; formula n says that it is n, those behind them in order that it is not. */
    private static BitSolver numbersOf(int width) {
        BitSolver x = new BitSolver();
        x.variable(width);
        x.term(1, 0, 0, 0);
        for (int n = 0; n < 1 << width; n++) {
            x.term(0, n, width, 0);
            x.formula(0, 0, n + 1);
        }
        for (int n = 0; n < 1 << width; n++) {
            x.formula(6, n, 0);
        }
        return x;
    }

    private static void assumeAll(BitSolver x, int... formulas) {
        for (int formula : formulas) {
            x.assume(formula);
        }
    }

    private static void assumeAnswersHowMany() {
        BitSolver x = numbers();
        for (int i = 0; i < 8; i++) {
            int due = i + 1;
            Expect.answer("assume " + i, due, () -> x.assume(16));
        }
        Expect.answer("8 are there", 8, () -> x.count(5));
        Expect.answer("one formula eight times", 1, x::attempt);
    }

    private static void clearTakesAll() {
        BitSolver x = numbers();
        Expect.answer("clear of none", 0, x::clear);
        assumeAll(x, 3, 4, 5);
        Expect.answer("attempt", 0, x::attempt);
        Expect.answer("clear", 3, x::clear);
        Expect.answer("attempt behind it", 1, x::attempt);
        Expect.answer("clear again", 0, x::clear);
        Expect.answer("assume anew", 1, () -> x.assume(5));
        Expect.answer("the old ones are gone", 1, x::attempt);
        x.assertion(6);
        x.push();
        Expect.answer("clear at a level", 1, x::clear);
        Expect.answer("assertions stay", 1, () -> x.count(3));
        Expect.answer("the level stays", 1, () -> x.count(4));
    }

    private static void attemptNeedsAll() {
        BitSolver x = numbers();
        Expect.answer("without any", 1, x::attempt);
        assumeAll(x, 3);
        Expect.answer("with one", 1, x::attempt);
        assumeAll(x, 20);
        Expect.answer("with two that fit", 1, x::attempt);
        assumeAll(x, 19);
        Expect.answer("with one that does not", 0, x::attempt);
    }

    private static void attemptMindsAssertions() {
        BitSolver x = numbers();
        assumeAll(x, 3);
        x.push();
        x.assertion(19);
        Expect.answer("against an assertion", 0, x::attempt);
        Expect.answer("there is a model", 1, x::check);
        x.pop();
        Expect.answer("without the assertion", 1, x::attempt);
    }

    private static void blameOfNothing() {
        BitSolver x = numbers();
        Expect.thrown("blame without assumptions", STATE, x::blame);
        assumeAll(x, 3, 20);
        Expect.thrown("blame of those that fit", STATE, x::blame);
        Expect.answer("they stay", 2, () -> x.count(5));
    }

    private static void blameWithoutAssumptions() {
        BitSolver x = numbers();
        x.assertion(3);
        x.assertion(4);
        Expect.answer("attempt", 0, x::attempt);
        Expect.answer("none is to blame", 0, x::blame);
    }

    private static void blameWithoutAnyModel() {
        BitSolver x = numbers();
        assumeAll(x, 3, 19, 5);
        x.assertion(3);
        x.assertion(4);
        Expect.answer("attempt", 0, x::attempt);
        Expect.answer("none is to blame", 0, x::blame);
    }

    private static void blameLeavesTheFirstOut() {
        BitSolver x = numbers();
        // Each two of 3, 4 and 5 contradict; the first is left out, the last two stay.
        assumeAll(x, 3, 4, 5);
        Expect.answer("blame", 6, x::blame);
        x.clear();
        assumeAll(x, 3, 20, 4, 19);
        Expect.answer("blame, 3 left out", 6, x::blame);
        x.clear();
        assumeAll(x, 20, 4, 3, 19);
        Expect.answer("blame, 20 and 4 left out", 12, x::blame);
    }

    private static void blameOfEqualOnes() {
        BitSolver x = numbers();
        assumeAll(x, 3, 3, 19, 19);
        Expect.answer("blame", 10, x::blame);
        x.clear();
        int false0 = x.formula(1, 0, 0);
        assumeAll(x, 3, false0, 3, false0);
        Expect.answer("blame of what never holds", 8, x::blame);
    }

    private static void blameOfFour() {
        BitSolver x = numbersOf(2);
        assumeAll(x, 4, 5, 5, 6, 7);
        Expect.answer("all four values are ruled out", 29, x::blame);
        x.assertion(5);
        Expect.answer("one by an assertion", 25, x::blame);
    }

    private static void blameMindsAssertions() {
        BitSolver x = numbers();
        assumeAll(x, 20, 3, 21);
        x.push();
        x.assertion(19);
        Expect.answer("against the assertion", 2, x::blame);
        x.pop();
        Expect.thrown("without it", STATE, x::blame);
    }

    private static void blameOfAllEight() {
        BitSolver x = numbersOf(3);
        assumeAll(x, 8, 9, 10, 11, 12, 13, 14, 15);
        Expect.answer("attempt", 0, x::attempt);
        Expect.answer("blame", 255, x::blame);
    }

    private static void blameChangesNothing() {
        BitSolver x = numbers();
        assumeAll(x, 3, 4, 5);
        x.assertion(22);
        for (int i = 0; i < 3; i++) {
            Expect.answer("blame", 6, x::blame);
            Expect.answer("assumptions", 3, () -> x.count(5));
            Expect.answer("assertions", 1, () -> x.count(3));
            Expect.answer("check", 1, x::check);
            Expect.answer("value", 0, () -> x.value(0));
        }
    }
}
