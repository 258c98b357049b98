/** Promises 5 (assertion), 6 (push) and 7 (pop). */
final class LevelTest {
    public static void main(String[] args) {
        assertionAnswersHowMany();
        popTakesItsOwnAssertions();
        popLeavesTheRest();
        popGivesRoomAgain();
        levelOpenedAgainIsEmpty();
        levelClosedLeavesNothing();
        everyLevelStandsAllQuestions();
        Expect.finish();
    }

    /** One variable of 4 bits; formula n says that it is at least n, for 0 .. 15. */
    private static BitSolver bounds() {
        BitSolver x = new BitSolver();
        x.variable(4);
        x.term(1, 0, 0, 0);
        for (int n = 0; n < 16; n++) {
            x.term(0, n, 4, 0);
            x.formula(2, n + 1, 0);
        }
        return x;
    }

    private static void assertionAnswersHowMany() {
        BitSolver x = bounds();
        Expect.answer("assertion(3)", 1, () -> x.assertion(3));
        Expect.answer("value", 3, () -> x.value(0));
        Expect.answer("assertion(7)", 2, () -> x.assertion(7));
        Expect.answer("value", 7, () -> x.value(0));
        Expect.answer("assertion(5), that is known", 3, () -> x.assertion(5));
        Expect.answer("value", 7, () -> x.value(0));
        Expect.answer("assertion(7) again", 4, () -> x.assertion(7));
        Expect.answer("count(3)", 4, () -> x.count(3));
        x.push();
        Expect.answer("assertion(9) above", 5, () -> x.assertion(9));
    }

    private static void popTakesItsOwnAssertions() {
        BitSolver x = bounds();
        for (int level = 0; level <= 5; level++) {
            if (level > 0) {
                x.push();
            }
            for (int i = 0; i < level; i++) {
                x.assertion(2 * level);
            }
        }
        Expect.answer("15 are asserted", 15, () -> x.count(3));
        for (int level = 5; level >= 1; level--) {
            int at = level;
            Expect.answer("value at level " + at, 2 * at, () -> x.value(0));
            Expect.answer("pop of level " + at, at, x::pop);
            Expect.answer("level", at - 1, () -> x.count(4));
            Expect.answer("left", (at - 1) * at / 2, () -> x.count(3));
        }
        Expect.answer("value at level 0", 0, () -> x.value(0));
    }

    private static void popLeavesTheRest() {
        BitSolver x = bounds();
        x.push();
        x.assume(3);
        int made = x.formula(6, 4, 0);
        x.term(8, 0, 0, 0);
        x.variable(2);
        x.assertion(made);
        x.pop();
        Expect.answer("formulas stay", 17, () -> x.count(2));
        Expect.answer("terms stay", 18, () -> x.count(1));
        Expect.answer("variables stay", 2, () -> x.count(0));
        Expect.answer("assumptions stay", 1, () -> x.count(5));
        Expect.answer("the formula is as it was", 2, () -> x.entailed(made));
    }

    private static void popGivesRoomAgain() {
        BitSolver x = bounds();
        int false0 = x.formula(1, 0, 0);
        x.push();
        x.assertion(false0);
        Expect.answer("no model above", 0, x::check);
        x.push();
        Expect.answer("none further above", 0, x::check);
        Expect.answer("pop", 0, x::pop);
        Expect.answer("still none", 0, x::check);
        Expect.answer("pop", 1, x::pop);
        Expect.answer("a model again", 1, x::check);
    }

    private static void levelOpenedAgainIsEmpty() {
        BitSolver x = bounds();
        x.push();
        x.assertion(12);
        x.pop();
        x.assertion(3);
        x.push();
        Expect.answer("the old assertion is gone", 3, () -> x.value(0));
        x.assertion(5);
        Expect.answer("pop", 1, x::pop);
        Expect.answer("the one below stays", 3, () -> x.value(0));
    }

    private static void levelClosedLeavesNothing() {
        BitSolver x = bounds();
        int false0 = x.formula(1, 0, 0);
        x.push();
        x.push();
        x.pop();
        x.pop();
        x.assertion(3);
        Expect.answer("in all models that are left", 1, () -> x.entailed(3));
        x.assertion(false0);
        Expect.answer("what was open is no model", 0, x::check);
        Expect.answer("nor can anything be assumed", 0, x::attempt);
    }

    /** Questions and what is built leave the models alone, at the highest level too. */
    private static void everyLevelStandsAllQuestions() {
        BitSolver x = bounds();
        for (int level = 0; level <= 5; level++) {
            int due = 2 * level + 1;
            x.assertion(due);
            x.assume(15);
            Expect.answer("attempt at level " + level, 1, x::attempt);
            Expect.answer("value behind attempt", due, () -> x.value(0));
            Expect.answer("fixed at level " + level, level >= 4 ? 8 : 0, () -> x.fixed(0));
            Expect.answer("value behind fixed", due, () -> x.value(0));
            Expect.answer("least at level " + level, due, () -> x.least(0));
            Expect.answer("value behind least", due, () -> x.value(0));
            x.term(4, 0, x.term(3, 0, due, 0), 0);
            Expect.answer("value behind terms", due, () -> x.value(0));
            x.formula(4, 0, due);
            Expect.answer("value behind a formula", due, () -> x.value(0));
            if (level < 5) {
                x.push();
            }
        }
        for (int level = 5; level >= 0; level--) {
            int due = 2 * level + 1;
            Expect.answer("value back at level " + level, due, () -> x.value(0));
            if (level > 0) {
                x.pop();
            }
        }
    }
}
