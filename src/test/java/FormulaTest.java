/** Promise 4 (formula): what each kind means, for all widths and values. */
final class FormulaTest {
    public static void main(String[] args) {
        for (int width = 1; width <= 4; width++) {
            for (int p = 0; p < 1 << width; p++) {
                bits(width, p);
                for (int q = 0; q < 1 << width; q++) {
                    relations(width, p, q);
                }
            }
        }
        connectives(false, false);
        connectives(false, true);
        connectives(true, false);
        connectives(true, true);
        unusedArgumentIsFree();
        for (int kind = 0; kind <= 10; kind++) {
            lastFormulaLeavesTheRest(kind, 0, 1);
            lastFormulaLeavesTheRest(kind, 2, 3);
        }
        Expect.finish();
    }

    private static void built(BitSolver x, boolean want, int kind, int a, int b) {
        int number = x.count(2);
        String call = "formula(" + kind + ", " + a + ", " + b + ")";
        Expect.answer(call, number, () -> x.formula(kind, a, b));
        Expect.answer("holds " + call, want ? 1 : 0, () -> x.entailed(number));
    }

    private static int signed(int width, int value) {
        return value >= 1 << (width - 1) ? value - (1 << width) : value;
    }

    private static void relations(int width, int p, int q) {
        BitSolver x = Given.pair(width, p, width, q);
        built(x, p == q, 0, 0, 1);
        built(x, p < q, 1, 0, 1);
        built(x, p <= q, 2, 0, 1);
        built(x, signed(width, p) < signed(width, q), 3, 0, 1);
        built(x, signed(width, p) <= signed(width, q), 4, 0, 1);
        built(x, true, 0, 0, 0);
        built(x, false, 1, 0, 0);
        built(x, true, 2, 0, 0);
        built(x, false, 3, 0, 0);
        built(x, true, 4, 0, 0);
    }

    private static void bits(int width, int p) {
        BitSolver x = Given.pair(width, p, 1, 0);
        for (int k = 0; k < width; k++) {
            built(x, ((p >> k) & 1) == 1, 5, 0, k);
        }
    }

    private static void connectives(boolean p, boolean q) {
        BitSolver x = Given.pair(1, p ? 1 : 0, 1, q ? 1 : 0);
        built(x, p, 5, 0, 0);
        built(x, q, 5, 1, 0);
        built(x, !p, 6, 2, 0);
        built(x, p && q, 7, 2, 3);
        built(x, p || q, 8, 2, 3);
        built(x, p != q, 9, 2, 3);
        built(x, !p || q, 10, 2, 3);
        built(x, p, 7, 2, 2);
        built(x, p, 8, 2, 2);
        built(x, false, 9, 2, 2);
        built(x, true, 10, 2, 2);
    }

    private static void unusedArgumentIsFree() {
        int[] anything = {-1, 77, Integer.MIN_VALUE, Integer.MAX_VALUE};
        for (int free : anything) {
            built(Given.pair(1, 0, 1, 1), false, 6, 0, free);
        }
    }

    /** Just below the limit of 50: the last formula may not run over into what else is kept. */
    private static void lastFormulaLeavesTheRest(int kind, int a, int b) {
        BitSolver x = Given.values();
        // A difference without a borrow leaves a carry in all that is worked with.
        x.term(3, 0, 0, 0);
        for (int i = x.count(2); i < 49; i++) {
            x.formula(i % 2, 0, 0);
        }
        Expect.answer("formula 49 of kind " + kind, 49, () -> x.formula(kind, a, b));
        Expect.answer("formula 48 stays", 1, () -> x.entailed(48));
        for (int i = 0; i < 16; i++) {
            int value = i;
            x.push();
            x.assertion(value);
            Expect.answer("term 0 stays", value, () -> x.valueOf(0));
            x.pop();
        }
    }
}
