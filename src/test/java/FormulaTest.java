/** Promise 4 (formula): what each kind means for all widths and values, and what is refused. */
final class FormulaTest {
    private static final Class<IllegalArgumentException> ARGUMENT = IllegalArgumentException.class;
    private static final Class<IllegalStateException> STATE = IllegalStateException.class;

    public static void main(String[] args) {
        for (int width = 1; width <= 4; width++) {
            for (int p = 0; p < 1 << width; p++) {
                bits(width, p);
                for (int q = 0; q < 1 << width; q++) {
                    relations(width, p, q);
                }
            }
        }
        connectives(false, false);
        connectives(false, true);
        connectives(true, false);
        connectives(true, true);
        wrongKinds();
        wrongTerms();
        wrongBits();
        wrongFormulas();
        unusedArgumentIsFree();
        limit();
        for (int kind = 0; kind <= 10; kind++) {
            lastFormulaLeavesTheRest(kind);
        }
        Expect.finish();
    }

    private static void built(BitSolver x, boolean want, int kind, int a, int b) {
        int number = x.count(2);
        String call = "formula(" + kind + ", " + a + ", " + b + ")";
        Expect.answer(call, number, () -> x.formula(kind, a, b));
        Expect.answer("holds " + call, want ? 1 : 0, () -> x.entailed(number));
    }

    private static void refused(BitSolver x, int kind, int a, int b) {
        int before = x.count(2);
        String call = "formula(" + kind + ", " + a + ", " + b + ")";
        Expect.thrown(call, ARGUMENT, () -> x.formula(kind, a, b));
        Expect.answer(call + " makes none", before, () -> x.count(2));
    }

    private static int signed(int width, int value) {
        return value >= 1 << (width - 1) ? value - (1 << width) : value;
    }

    private static void relations(int width, int p, int q) {
        BitSolver x = Given.pair(width, p, width, q);
        built(x, p == q, 0, 0, 1);
        built(x, p < q, 1, 0, 1);
        built(x, p <= q, 2, 0, 1);
        built(x, signed(width, p) < signed(width, q), 3, 0, 1);
        built(x, signed(width, p) <= signed(width, q), 4, 0, 1);
        built(x, true, 0, 0, 0);
        built(x, false, 1, 0, 0);
        built(x, true, 2, 0, 0);
        built(x, false, 3, 0, 0);
        built(x, true, 4, 0, 0);
    }

    private static void bits(int width, int p) {
        BitSolver x = Given.pair(width, p, 1, 0);
        for (int k = 0; k < width; k++) {
            built(x, ((p >> k) & 1) == 1, 5, 0, k);
        }
    }

    private static void connectives(boolean p, boolean q) {
        BitSolver x = Given.pair(1, p ? 1 : 0, 1, q ? 1 : 0);
        built(x, p, 5, 0, 0);
        built(x, q, 5, 1, 0);
        built(x, !p, 6, 2, 0);
        built(x, p && q, 7, 2, 3);
        built(x, p || q, 8, 2, 3);
        built(x, p != q, 9, 2, 3);
        built(x, !p || q, 10, 2, 3);
        built(x, p, 7, 2, 2);
        built(x, p, 8, 2, 2);
        built(x, false, 9, 2, 2);
        built(x, true, 10, 2, 2);
    }

    private static void wrongKinds() {
        BitSolver x = Given.pair(2, 1, 2, 1);
        int[] bad = {-1, 11, 12, Integer.MIN_VALUE, Integer.MAX_VALUE};
        for (int kind : bad) {
            refused(x, kind, 0, 1);
        }
    }

    private static void wrongTerms() {
        BitSolver x = Given.pair(2, 1, 3, 1);
        int[] bad = {-1, 4, 49, 50, Integer.MIN_VALUE, Integer.MAX_VALUE};
        for (int kind = 0; kind <= 4; kind++) {
            for (int term : bad) {
                refused(x, kind, term, 0);
                refused(x, kind, 0, term);
                refused(x, kind, term, term);
            }
            refused(x, kind, 0, 1);
            refused(x, kind, 1, 0);
        }
        for (int term : bad) {
            refused(x, 5, term, 0);
        }
    }

    private static void wrongBits() {
        BitSolver x = Given.pair(2, 1, 3, 1);
        int[] bad = {-1, 2, 3, 4, Integer.MIN_VALUE, Integer.MAX_VALUE};
        for (int bit : bad) {
            refused(x, 5, 0, bit);
        }
        refused(x, 5, 1, 3);
    }

    private static void wrongFormulas() {
        BitSolver x = Given.pair(2, 1, 3, 1);
        int[] bad = {-1, 2, 3, 49, 50, Integer.MIN_VALUE, Integer.MAX_VALUE};
        for (int formula : bad) {
            refused(x, 6, formula, 0);
            for (int kind = 7; kind <= 10; kind++) {
                refused(x, kind, formula, 0);
                refused(x, kind, 0, formula);
                refused(x, kind, formula, formula);
            }
        }
    }

    private static void unusedArgumentIsFree() {
        int[] anything = {-1, 77, Integer.MIN_VALUE, Integer.MAX_VALUE};
        for (int free : anything) {
            built(Given.pair(1, 0, 1, 1), false, 6, 0, free);
        }
    }

    private static void limit() {
        BitSolver x = new BitSolver();
        x.variable(4);
        x.term(1, 0, 0, 0);
        for (int i = 0; i < 50; i++) {
            int number = i;
            Expect.answer("formula " + i, number, () -> x.formula(number % 2, 0, 0));
        }
        Expect.thrown("formula 50", STATE, () -> x.formula(0, 0, 0));
        Expect.thrown("formula 50, wrong too", ARGUMENT, () -> x.formula(11, 0, 0));
        Expect.thrown("formula 50, not made too", ARGUMENT, () -> x.formula(6, 50, 0));
        Expect.answer("50 stay", 50, () -> x.count(2));
        Expect.answer("the last but one stays", 1, () -> x.entailed(48));
        Expect.answer("the last stays", 0, () -> x.entailed(49));
    }

    private static void lastFormulaLeavesTheRest(int kind) {
        BitSolver x = Given.pair(4, 5, 4, 10);
        for (int i = 2; i < 49; i++) {
            x.formula(i % 2, 0, 0);
        }
        Expect.answer("formula 49 of kind " + kind, 49, () -> x.formula(kind, 0, 1));
        Expect.answer("formula 48 stays", 1, () -> x.entailed(48));
        Expect.answer("term 0 stays", 5, () -> x.valueOf(0));
        Expect.answer("term 1 stays", 10, () -> x.valueOf(1));
    }
}
