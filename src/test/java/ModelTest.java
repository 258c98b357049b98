/** Promises 8 (check), 9 (value), 10 (valueOf), 11 (entailed), 12 (fixed) and 13 (least). */
final class ModelTest {
    public static void main(String[] args) {
        checkOfNumbersAlone();
        checkFindsTheOnlyModel();
        checkForgetsNothing();
        lessModelGoesByVariableOrder();
        lessModelByEachVariable();
        lessModelIsWithoutSign();
        valueOfIsInTheLeastModel();
        leastIsNotInTheLeastModel();
        leastIsWithoutSign();
        entailedThreeWays();
        entailedInAllButOne();
        fixedBits();
        fixedButForOneBit();
        fixedOfATermlessVariable();
        assumptionsDoNotCount();
        Expect.finish();
    }

    private static int number(BitSolver x, int value, int width) {
        return x.term(0, value, width, 0);
    }

    private static void assertEqual(BitSolver x, int a, int b) {
        x.assertion(x.formula(0, a, b));
    }

    private static void checkOfNumbersAlone() {
        BitSolver x = new BitSolver();
        number(x, 2, 3);
        number(x, 5, 3);
        x.formula(1, 0, 1);
        x.formula(1, 1, 0);
        Expect.answer("nothing is asserted", 1, x::check);
        x.assertion(0);
        Expect.answer("2 < 5", 1, x::check);
        Expect.answer("a number has its value", 5, () -> x.valueOf(1));
        Expect.answer("and it is its least", 5, () -> x.least(1));
        Expect.answer("2 < 5 holds in all", 1, () -> x.entailed(0));
        Expect.answer("5 < 2 in none", 0, () -> x.entailed(1));
        x.assertion(1);
        Expect.answer("5 < 2", 0, x::check);
    }

    private static void checkFindsTheOnlyModel() {
        for (int p = 0; p < 16; p += 5) {
            for (int q = 0; q < 16; q += 3) {
                for (int r = 0; r < 4; r++) {
                    onlyModel(p, q, r);
                }
            }
        }
    }

    private static void onlyModel(int p, int q, int r) {
        BitSolver x = Given.three();
        assertEqual(x, 0, number(x, p, 4));
        assertEqual(x, 1, number(x, q, 4));
        assertEqual(x, 2, number(x, r, 2));
        Expect.answer("the only model", 1, x::check);
        int[] want = {p, q, r};
        int[] all = {15, 15, 3};
        for (int v = 0; v < 3; v++) {
            int asked = v;
            Expect.answer("value(" + v + ")", want[v], () -> x.value(asked));
            Expect.answer("valueOf(" + v + ")", want[v], () -> x.valueOf(asked));
            Expect.answer("least(" + v + ")", want[v], () -> x.least(asked));
            Expect.answer("fixed(" + v + ")", all[v], () -> x.fixed(asked));
        }
        x.push();
        x.assertion(x.formula(6, 0, 0));
        Expect.answer("not even that one", 0, x::check);
        x.pop();
        Expect.answer("it is there again", 1, x::check);
    }

    private static void checkForgetsNothing() {
        BitSolver x = Given.three();
        assertEqual(x, x.term(2, 0, 1, 0), number(x, 9, 4));
        for (int i = 0; i < 3; i++) {
            Expect.answer("check", 1, x::check);
            Expect.answer("least sum", 9, () -> x.least(3));
            Expect.answer("least of the second", 0, () -> x.least(1));
            Expect.answer("attempt", 1, x::attempt);
            Expect.answer("fixed", 0, () -> x.fixed(0));
            Expect.answer("value", 0, () -> x.value(0));
            Expect.answer("value", 9, () -> x.value(1));
        }
    }

    private static void lessModelGoesByVariableOrder() {
        BitSolver x = Given.three();
        int sum = x.term(2, 0, 1, 0);
        assertEqual(x, sum, number(x, 5, 4));
        Expect.answer("the first comes first", 0, () -> x.value(0));
        Expect.answer("the second takes all", 5, () -> x.value(1));
        Expect.answer("the third is free", 0, () -> x.value(2));
        x.assertion(x.formula(2, x.term(0, 3, 4, 0), 0));
        Expect.answer("the first, at least 3", 3, () -> x.value(0));
        Expect.answer("the second, the rest", 2, () -> x.value(1));
        x.assertion(x.formula(1, 0, 1));
        Expect.answer("the first, below the second", 6, () -> x.value(0));
        Expect.answer("the second, with a carry lost", 15, () -> x.value(1));
    }

    /** "or if they are equal there of variable 1, and so on", down to the last variable. */
    private static void lessModelByEachVariable() {
        for (int i = 0; i < 5; i++) {
            BitSolver x = new BitSolver();
            for (int v = 0; v < 6; v++) {
                x.variable(1);
                x.term(1, v, 0, 0);
            }
            x.formula(0, i, i + 1);
            x.assertion(x.formula(6, 0, 0));
            for (int v = 0; v < 6; v++) {
                int asked = v;
                int due = v == i + 1 ? 1 : 0;
                Expect.answer("value(" + v + "), where " + i + " and the next differ", due,
                        () -> x.value(asked));
            }
        }
    }

    private static void lessModelIsWithoutSign() {
        BitSolver x = Given.three();
        x.assertion(x.formula(3, 0, number(x, 2, 4)));
        Expect.answer("0 is less than 8", 0, () -> x.value(0));
        x.assertion(x.formula(6, x.formula(0, 0, number(x, 0, 4)), 0));
        x.assertion(x.formula(6, x.formula(0, 0, number(x, 1, 4)), 0));
        Expect.answer("8 is less than 15", 8, () -> x.value(0));
    }

    private static void valueOfIsInTheLeastModel() {
        BitSolver x = Given.three();
        assertEqual(x, x.term(2, 0, 1, 0), number(x, 9, 4));
        int joined = x.term(13, x.term(14, 1, 3, 3), x.term(14, 0, 0, 1), 0);
        int turned = x.term(8, 1, 0, 0);
        Expect.answer("a part of the model", 1, () -> x.valueOf(joined));
        Expect.answer("9 turned", 6, () -> x.valueOf(turned));
        Expect.answer("the first", 0, () -> x.valueOf(0));
        Expect.answer("the second", 9, () -> x.valueOf(1));
    }

    private static void leastIsNotInTheLeastModel() {
        BitSolver x = Given.three();
        assertEqual(x, x.term(2, 0, 1, 0), number(x, 9, 4));
        int product = x.term(4, 0, 1, 0);
        int turned = x.term(8, 1, 0, 0);
        x.assertion(x.formula(2, number(x, 1, 4), 0));
        x.assertion(x.formula(2, number(x, 3, 4), 1));
        Expect.answer("the first in the least model", 1, () -> x.value(0));
        Expect.answer("the second in the least model", 8, () -> x.value(1));
        Expect.answer("the least of the first", 1, () -> x.least(0));
        Expect.answer("the least of the second", 3, () -> x.least(1));
        Expect.answer("the product in the least model", 8, () -> x.valueOf(product));
        Expect.answer("the least product", 2, () -> x.least(product));
        Expect.answer("the second turned in the least model", 7, () -> x.valueOf(turned));
        Expect.answer("the least of the second turned", 0, () -> x.least(turned));
    }

    private static void leastIsWithoutSign() {
        BitSolver x = Given.three();
        x.assertion(x.formula(4, 0, number(x, 5, 4)));
        Expect.answer("at most 5 with a sign", 0, () -> x.least(0));
        x.assertion(x.formula(3, 0, number(x, 0, 4)));
        Expect.answer("below 0", 8, () -> x.least(0));
        x.assertion(x.formula(5, 0, 1));
        Expect.answer("with bit 1", 10, () -> x.least(0));
    }

    private static void entailedThreeWays() {
        BitSolver x = Given.three();
        int less = x.formula(1, 0, 1);
        int more = x.formula(1, 1, 0);
        int lessOrNot = x.formula(8, less, x.formula(6, less, 0));
        int both = x.formula(7, less, more);
        Expect.answer("in some", 2, () -> x.entailed(less));
        Expect.answer("always", 1, () -> x.entailed(lessOrNot));
        Expect.answer("never", 0, () -> x.entailed(both));
        x.assertion(less);
        Expect.answer("asserted", 1, () -> x.entailed(less));
        Expect.answer("against what is asserted", 0, () -> x.entailed(more));
        int bit = x.formula(5, 2, 1);
        Expect.answer("of another variable", 2, () -> x.entailed(bit));
    }

    /** Whether a formula holds in all models, in none, or in some: one model makes it some. */
    private static void entailedInAllButOne() {
        BitSolver x = Given.three();
        int[] values = {15, 15, 3};
        int[] widths = {4, 4, 2};
        int all = x.formula(0, 0, 0);
        int only = all;
        for (int v = 0; v < 3; v++) {
            only = x.formula(7, only, x.formula(0, v, number(x, values[v], widths[v])));
        }
        int one = only;
        int others = x.formula(6, one, 0);
        int none = x.formula(6, all, 0);
        Expect.answer("in all", 1, () -> x.entailed(all));
        Expect.answer("in all but one", 2, () -> x.entailed(others));
        Expect.answer("in one", 2, () -> x.entailed(one));
        Expect.answer("in none", 0, () -> x.entailed(none));
        x.push();
        x.assertion(others);
        Expect.answer("without that one, in all", 1, () -> x.entailed(others));
        Expect.answer("without that one, in none", 0, () -> x.entailed(one));
        x.pop();
        x.assertion(one);
        Expect.answer("with that one alone, in none", 0, () -> x.entailed(others));
        Expect.answer("with that one alone, in all", 1, () -> x.entailed(one));
    }

    private static void fixedBits() {
        BitSolver x = Given.three();
        Expect.answer("none of the first", 0, () -> x.fixed(0));
        Expect.answer("none of the second", 0, () -> x.fixed(1));
        Expect.answer("none of the third", 0, () -> x.fixed(2));
        x.assertion(x.formula(5, 0, 2));
        Expect.answer("one that is 1", 4, () -> x.fixed(0));
        x.assertion(x.formula(6, x.formula(5, 0, 0), 0));
        Expect.answer("and one that is 0", 5, () -> x.fixed(0));
        x.assertion(x.formula(0, 0, 1));
        Expect.answer("the second likewise", 5, () -> x.fixed(1));
        x.assertion(x.formula(2, 0, number(x, 5, 4)));
        Expect.answer("all of the first", 15, () -> x.fixed(0));
        Expect.answer("all of the second", 15, () -> x.fixed(1));
        Expect.answer("still none of the third", 0, () -> x.fixed(2));
        x.assertion(x.formula(5, 2, 1));
        Expect.answer("the high one of the third", 2, () -> x.fixed(2));
    }

    /** Two models that differ in one bit alone, for each bit. */
    private static void fixedButForOneBit() {
        int[] widths = {4, 4, 2};
        for (int open = 0; open < 10; open++) {
            BitSolver x = Given.three();
            for (int place = 0; place < 10; place++) {
                int bit = x.formula(5, place / 4, place % 4);
                if (place != open) {
                    x.assertion(place % 3 == 0 ? bit : x.formula(6, bit, 0));
                }
            }
            for (int v = 0; v < 3; v++) {
                int asked = v;
                int all = (1 << widths[v]) - 1;
                int due = open / 4 == v ? all - (1 << (open % 4)) : all;
                Expect.answer("fixed(" + v + "), all but bit " + open, due, () -> x.fixed(asked));
            }
        }
    }

    private static void fixedOfATermlessVariable() {
        BitSolver x = new BitSolver();
        x.variable(3);
        x.variable(2);
        Expect.answer("no bit is fixed", 0, () -> x.fixed(1));
        Expect.answer("its value is 0", 0, () -> x.value(1));
    }

    private static void assumptionsDoNotCount() {
        BitSolver x = Given.three();
        x.assume(x.formula(1, 0, 0));
        x.assume(x.formula(5, 0, 3));
        Expect.answer("check", 1, x::check);
        Expect.answer("value", 0, () -> x.value(0));
        Expect.answer("valueOf", 0, () -> x.valueOf(0));
        Expect.answer("least", 0, () -> x.least(0));
        Expect.answer("fixed", 0, () -> x.fixed(0));
        Expect.answer("entailed", 2, () -> x.entailed(1));
        Expect.answer("attempt", 0, x::attempt);
        Expect.answer("check behind it", 1, x::check);
    }
}
