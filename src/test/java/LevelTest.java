import java.util.NoSuchElementException;

/** Promises 5 (assertion), 6 (push) and 7 (pop). */
final class LevelTest {
    private static final Class<IllegalStateException> STATE = IllegalStateException.class;
    private static final Class<NoSuchElementException> NONE = NoSuchElementException.class;

    public static void main(String[] args) {
        assertionAnswersHowMany();
        assertionOfNone();
        assertionLimit();
        pushNumbersAndLimit();
        popOfLevelZero();
        popTakesItsOwnAssertions();
        popLeavesTheRest();
        popGivesRoomAgain();
        levelOpenedAgainIsEmpty();
        Expect.finish();
    }

    /** One variable of 4 bits; formula n says that it is at least n, for 0 .. 15. */
    private static BitSolver bounds() {
        BitSolver x = new BitSolver();
        x.variable(4);
        x.term(1, 0, 0, 0);
        for (int n = 0; n < 16; n++) {
            x.term(0, n, 4, 0);
            x.formula(2, n + 1, 0);
        }
        return x;
    }

    private static void assertionAnswersHowMany() {
        BitSolver x = bounds();
        Expect.answer("assertion(3)", 1, () -> x.assertion(3));
        Expect.answer("value", 3, () -> x.value(0));
        Expect.answer("assertion(7)", 2, () -> x.assertion(7));
        Expect.answer("value", 7, () -> x.value(0));
        Expect.answer("assertion(5), that is known", 3, () -> x.assertion(5));
        Expect.answer("value", 7, () -> x.value(0));
        Expect.answer("assertion(7) again", 4, () -> x.assertion(7));
        Expect.answer("count(3)", 4, () -> x.count(3));
        x.push();
        Expect.answer("assertion(9) above", 5, () -> x.assertion(9));
    }

    private static void assertionOfNone() {
        BitSolver x = bounds();
        int[] bad = {-1, 16, 49, 50, Integer.MIN_VALUE, Integer.MAX_VALUE};
        for (int formula : bad) {
            Expect.thrown("assertion(" + formula + ")", NONE, () -> x.assertion(formula));
        }
        Expect.answer("none is asserted", 0, () -> x.count(3));
    }

    private static void assertionLimit() {
        BitSolver x = bounds();
        for (int i = 0; i < 30; i++) {
            int due = i + 1;
            if (i == 10) {
                x.push();
            }
            Expect.answer("assertion " + i, due, () -> x.assertion(2));
        }
        Expect.thrown("assertion 30", STATE, () -> x.assertion(9));
        Expect.thrown("assertion 30 of none", NONE, () -> x.assertion(16));
        Expect.answer("30 stay", 30, () -> x.count(3));
        Expect.answer("it is not asserted", 2, () -> x.value(0));
        Expect.answer("pop", 20, x::pop);
        Expect.answer("there is room again", 11, () -> x.assertion(9));
        Expect.answer("it is asserted", 9, () -> x.value(0));
    }

    private static void pushNumbersAndLimit() {
        BitSolver x = bounds();
        for (int i = 1; i <= 5; i++) {
            Expect.answer("push " + i, i, x::push);
        }
        Expect.thrown("push 6", STATE, x::push);
        Expect.answer("five are open", 5, () -> x.count(4));
        x.assertion(6);
        Expect.thrown("push 6 again", STATE, x::push);
        Expect.answer("the assertion went in", 6, () -> x.value(0));
        Expect.answer("pop", 1, x::pop);
        Expect.answer("push behind pop", 5, x::push);
    }

    private static void popOfLevelZero() {
        BitSolver x = bounds();
        x.assertion(4);
        Expect.thrown("pop", STATE, x::pop);
        Expect.answer("the assertion stays", 1, () -> x.count(3));
        Expect.answer("and holds", 4, () -> x.value(0));
        x.push();
        Expect.answer("pop of level 1", 0, x::pop);
        Expect.thrown("pop once more", STATE, x::pop);
        Expect.answer("level", 0, () -> x.count(4));
    }

    private static void popTakesItsOwnAssertions() {
        BitSolver x = bounds();
        for (int level = 0; level <= 5; level++) {
            if (level > 0) {
                x.push();
            }
            for (int i = 0; i < level; i++) {
                x.assertion(2 * level);
            }
        }
        Expect.answer("15 are asserted", 15, () -> x.count(3));
        for (int level = 5; level >= 1; level--) {
            int at = level;
            Expect.answer("value at level " + at, 2 * at, () -> x.value(0));
            Expect.answer("pop of level " + at, at, x::pop);
            Expect.answer("level", at - 1, () -> x.count(4));
            Expect.answer("left", (at - 1) * at / 2, () -> x.count(3));
        }
        Expect.answer("value at level 0", 0, () -> x.value(0));
    }

    private static void popLeavesTheRest() {
        BitSolver x = bounds();
        x.push();
        x.assume(3);
        int made = x.formula(6, 4, 0);
        x.term(8, 0, 0, 0);
        x.variable(2);
        x.assertion(made);
        x.pop();
        Expect.answer("formulas stay", 17, () -> x.count(2));
        Expect.answer("terms stay", 18, () -> x.count(1));
        Expect.answer("variables stay", 2, () -> x.count(0));
        Expect.answer("assumptions stay", 1, () -> x.count(5));
        Expect.answer("the formula is as it was", 2, () -> x.entailed(made));
    }

    private static void popGivesRoomAgain() {
        BitSolver x = bounds();
        int false0 = x.formula(1, 0, 0);
        x.push();
        x.assertion(false0);
        Expect.answer("no model above", 0, x::check);
        x.push();
        Expect.answer("none further above", 0, x::check);
        Expect.answer("pop", 0, x::pop);
        Expect.answer("still none", 0, x::check);
        Expect.answer("pop", 1, x::pop);
        Expect.answer("a model again", 1, x::check);
    }

    private static void levelOpenedAgainIsEmpty() {
        BitSolver x = bounds();
        x.push();
        x.assertion(12);
        x.pop();
        x.assertion(3);
        x.push();
        Expect.answer("the old assertion is gone", 3, () -> x.value(0));
        x.assertion(5);
        Expect.answer("pop", 1, x::pop);
        Expect.answer("the one below stays", 3, () -> x.value(0));
    }
}
