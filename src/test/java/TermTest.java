/** Promise 3 (term): what each kind means for all widths and values, and what is refused. */
final class TermTest {
    private static final Class<IllegalArgumentException> ARGUMENT = IllegalArgumentException.class;
    private static final Class<IllegalStateException> STATE = IllegalStateException.class;

    public static void main(String[] args) {
        for (int width = 1; width <= 4; width++) {
            for (int p = 0; p < 1 << width; p++) {
                numbersAndVariables(width, p);
                moved(width, p);
                bitsOf(width, p);
                for (int q = 0; q < 1 << width; q++) {
                    ofTwo(width, p, q);
                    choice(width, p, q);
                }
            }
        }
        joined();
        numbers();
        wrongKinds();
        wrongVariables();
        wrongTerms();
        wrongWays();
        wrongChoices();
        wrongJoins();
        wrongParts();
        unusedArgumentsAreFree();
        limit();
        for (int kind = 0; kind <= 14; kind++) {
            lastTermLeavesTheRest(kind);
        }
        Expect.finish();
    }

    private static void built(BitSolver x, int want, int kind, int a, int b, int c) {
        int number = x.count(1);
        String call = "term(" + kind + ", " + a + ", " + b + ", " + c + ")";
        Expect.answer(call, number, () -> x.term(kind, a, b, c));
        Expect.answer("value of " + call, want, () -> x.valueOf(number));
    }

    private static void refused(BitSolver x, int kind, int a, int b, int c) {
        int before = x.count(1);
        String call = "term(" + kind + ", " + a + ", " + b + ", " + c + ")";
        Expect.thrown(call, ARGUMENT, () -> x.term(kind, a, b, c));
        Expect.answer(call + " makes none", before, () -> x.count(1));
    }

    private static void numbersAndVariables(int width, int p) {
        BitSolver x = Given.pair(width, p, 1, 0);
        built(x, p, 0, p, width, 0);
        built(x, p, 1, 0, 0, 0);
    }

    private static void ofTwo(int width, int p, int q) {
        int mask = (1 << width) - 1;
        BitSolver x = Given.pair(width, p, width, q);
        built(x, (p + q) & mask, 2, 0, 1, 0);
        built(x, (p - q) & mask, 3, 0, 1, 0);
        built(x, (p * q) & mask, 4, 0, 1, 0);
        built(x, p & q, 5, 0, 1, 0);
        built(x, p | q, 6, 0, 1, 0);
        built(x, p ^ q, 7, 0, 1, 0);
        built(x, (p + p) & mask, 2, 0, 0, 0);
        built(x, 0, 3, 0, 0, 0);
        built(x, (p * p) & mask, 4, 0, 0, 0);
    }

    private static void moved(int width, int p) {
        int mask = (1 << width) - 1;
        int signed = p >> (width - 1) == 1 ? p - (1 << width) : p;
        BitSolver x = Given.pair(width, p, 1, 0);
        built(x, p ^ mask, 8, 0, 0, 0);
        for (int way = 0; way <= 4; way++) {
            built(x, (p << way) & mask, 9, 0, way, 0);
            built(x, p >> way, 10, 0, way, 0);
            built(x, (signed >> way) & mask, 11, 0, way, 0);
        }
    }

    private static void choice(int width, int p, int q) {
        BitSolver x = Given.pair(width, p, width, q);
        x.formula(1, 0, 1);
        built(x, p < q ? p : q, 12, 2, 0, 1);
        built(x, p < q ? q : p, 12, 2, 1, 0);
    }

    private static void joined() {
        for (int low = 1; low <= 3; low++) {
            for (int high = 1; low + high <= 4; high++) {
                for (int p = 0; p < 1 << low; p++) {
                    for (int q = 0; q < 1 << high; q++) {
                        BitSolver x = Given.pair(low, p, high, q);
                        built(x, p + (q << low), 13, 0, 1, 0);
                        built(x, q + (p << high), 13, 1, 0, 0);
                    }
                }
            }
        }
    }

    private static void bitsOf(int width, int p) {
        BitSolver x = Given.pair(width, p, 1, 0);
        for (int from = 0; from < width; from++) {
            for (int to = from; to < width; to++) {
                built(x, (p >> from) & ((1 << (to - from + 1)) - 1), 14, 0, from, to);
                // The width shows in what fits the term: joined with one bit it is one wider.
                int made = x.count(1) - 1;
                if (to - from == 3) {
                    refused(x, 13, made, 1, 0);
                } else {
                    built(x, x.valueOf(made), 13, made, 1, 0);
                }
            }
        }
    }

    private static void numbers() {
        BitSolver x = new BitSolver();
        for (int width = 1; width <= 4; width++) {
            built(x, 0, 0, 0, width, 0);
            built(x, (1 << width) - 1, 0, (1 << width) - 1, width, 0);
            refused(x, 0, 1 << width, width, 0);
            refused(x, 0, -1, width, 0);
            refused(x, 0, Integer.MIN_VALUE, width, 0);
            refused(x, 0, Integer.MAX_VALUE, width, 0);
        }
        int[] bad = {0, 5, -1, 31, 32, 33, 36, Integer.MIN_VALUE, Integer.MAX_VALUE};
        for (int width : bad) {
            refused(x, 0, 0, width, 0);
            refused(x, 0, 1, width, 0);
        }
    }

    private static void wrongKinds() {
        BitSolver x = Given.pair(2, 1, 2, 1);
        int[] bad = {-1, 15, 16, Integer.MIN_VALUE, Integer.MAX_VALUE};
        for (int kind : bad) {
            refused(x, kind, 0, 1, 1);
        }
    }

    private static void wrongVariables() {
        BitSolver x = Given.pair(2, 1, 2, 1);
        int[] bad = {-1, 2, 3, 6, Integer.MIN_VALUE, Integer.MAX_VALUE};
        for (int variable : bad) {
            refused(x, 1, variable, 0, 0);
        }
    }

    private static void wrongTerms() {
        BitSolver x = Given.pair(2, 1, 3, 1);
        int[] bad = {-1, 4, 49, 50, Integer.MIN_VALUE, Integer.MAX_VALUE};
        for (int term : bad) {
            for (int kind = 2; kind <= 7; kind++) {
                refused(x, kind, term, 0, 0);
                refused(x, kind, 0, term, 0);
                refused(x, kind, term, term, 0);
            }
            for (int kind = 8; kind <= 11; kind++) {
                refused(x, kind, term, 0, 0);
            }
            refused(x, 14, term, 0, 0);
        }
        for (int kind = 2; kind <= 7; kind++) {
            refused(x, kind, 0, 1, 0);
            refused(x, kind, 1, 0, 0);
        }
    }

    private static void wrongWays() {
        BitSolver x = Given.pair(2, 1, 2, 1);
        int[] bad = {-1, 5, 32, Integer.MIN_VALUE, Integer.MAX_VALUE};
        for (int way : bad) {
            for (int kind = 9; kind <= 11; kind++) {
                refused(x, kind, 0, way, 0);
            }
        }
    }

    private static void wrongChoices() {
        BitSolver x = Given.pair(2, 1, 3, 1);
        int[] bad = {-1, 2, 50, Integer.MIN_VALUE, Integer.MAX_VALUE};
        for (int formula : bad) {
            refused(x, 12, formula, 0, 0);
        }
        refused(x, 12, 0, 0, 1);
        refused(x, 12, 0, 1, 0);
        refused(x, 12, 0, 4, 0);
        refused(x, 12, 0, 0, 4);
        refused(x, 12, 0, -1, 0);
        refused(x, 12, 0, 4, 4);
    }

    private static void wrongJoins() {
        BitSolver x = Given.pair(2, 1, 3, 1);
        refused(x, 13, 0, 1, 0);
        refused(x, 13, 1, 0, 0);
        refused(x, 13, 1, 1, 0);
        refused(x, 13, 0, 4, 0);
        refused(x, 13, 4, 0, 0);
        refused(x, 13, -1, 0, 0);
        refused(x, 13, 0, -1, 0);
    }

    private static void wrongParts() {
        BitSolver x = Given.pair(3, 5, 1, 1);
        refused(x, 14, 0, 0, 3);
        refused(x, 14, 0, 3, 3);
        refused(x, 14, 0, -1, 1);
        refused(x, 14, 0, -1, -1);
        refused(x, 14, 0, 2, 1);
        refused(x, 14, 0, 1, 0);
        refused(x, 14, 1, 1, 1);
        refused(x, 14, 0, Integer.MIN_VALUE, 0);
        refused(x, 14, 0, 0, Integer.MAX_VALUE);
    }

    private static void unusedArgumentsAreFree() {
        int[] anything = {-1, 77, Integer.MIN_VALUE, Integer.MAX_VALUE};
        for (int free : anything) {
            BitSolver x = Given.pair(3, 5, 3, 6);
            built(x, 4, 0, 4, 3, free);
            built(x, 5, 1, 0, free, free);
            built(x, 3, 2, 0, 1, free);
            built(x, 7, 3, 0, 1, free);
            built(x, 6, 4, 0, 1, free);
            built(x, 4, 5, 0, 1, free);
            built(x, 7, 6, 0, 1, free);
            built(x, 3, 7, 0, 1, free);
            built(x, 2, 8, 0, free, free);
            built(x, 2, 9, 0, 1, free);
            built(x, 2, 10, 0, 1, free);
            built(x, 6, 11, 0, 1, free);
            BitSolver y = Given.pair(1, 0, 1, 1);
            built(y, 2, 13, 0, 1, free);
        }
    }

    private static void limit() {
        BitSolver x = new BitSolver();
        x.variable(4);
        for (int i = 0; i < 50; i++) {
            int number = i;
            Expect.answer("term " + i, number, () -> x.term(0, number % 16, 4, 0));
        }
        Expect.thrown("term 50", STATE, () -> x.term(1, 0, 0, 0));
        Expect.thrown("term 50, wrong too", ARGUMENT, () -> x.term(15, 0, 0, 0));
        Expect.thrown("term 50, not made too", ARGUMENT, () -> x.term(8, 50, 0, 0));
        Expect.answer("50 stay", 50, () -> x.count(1));
        Expect.answer("the last stays", 1, () -> x.valueOf(49));
    }

    private static void lastTermLeavesTheRest(int kind) {
        BitSolver x = Given.three();
        x.formula(1, 0, 1);
        for (int i = 3; i < 49; i++) {
            x.term(0, i % 16, 4, 0);
        }
        int[][] arguments = {
            {9, 4, 0}, {1, 0, 0}, {0, 1, 0}, {0, 1, 0}, {0, 1, 0}, {0, 1, 0}, {0, 1, 0}, {0, 1, 0},
            {1, 0, 0}, {1, 2, 0}, {1, 2, 0}, {1, 2, 0}, {0, 0, 1}, {2, 2, 0}, {1, 0, 3}
        };
        int[] a = arguments[kind];
        Expect.answer("term 49 of kind " + kind, 49, () -> x.term(kind, a[0], a[1], a[2]));
        Expect.answer("term 48 stays", 0, () -> x.least(48));
        Expect.answer("the formula stays", 2, () -> x.entailed(0));
        Expect.answer("there are models", 1, x::check);
        for (int v = 0; v < 3; v++) {
            int asked = v;
            Expect.answer("value(" + v + ")", 0, () -> x.value(asked));
            Expect.answer("fixed(" + v + ")", 0, () -> x.fixed(asked));
        }
    }
}
