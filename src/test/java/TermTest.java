/** Promise 3 (term): what each kind means, for all widths and values. */
final class TermTest {
    public static void main(String[] args) {
        for (int width = 1; width <= 4; width++) {
            for (int p = 0; p < 1 << width; p++) {
                numbersAndVariables(width, p);
                moved(width, p);
                bitsOf(width, p);
                for (int q = 0; q < 1 << width; q++) {
                    ofTwo(width, p, q);
                    choice(width, p, q);
                }
            }
        }
        joined();
        lastTerms();
        Expect.finish();
    }

    private static void built(BitSolver x, int want, int kind, int a, int b, int c) {
        int number = x.count(1);
        String call = "term(" + kind + ", " + a + ", " + b + ", " + c + ")";
        Expect.answer(call, number, () -> x.term(kind, a, b, c));
        Expect.answer("value of " + call, want, () -> x.valueOf(number));
    }

    private static void numbersAndVariables(int width, int p) {
        BitSolver x = Given.pair(width, p, 1, 0);
        built(x, p, 0, p, width, 0);
        built(x, p, 1, 0, 0, 0);
    }

    private static void ofTwo(int width, int p, int q) {
        int mask = (1 << width) - 1;
        BitSolver x = Given.pair(width, p, width, q);
        built(x, (p + q) & mask, 2, 0, 1, 0);
        built(x, (p - q) & mask, 3, 0, 1, 0);
        built(x, (p * q) & mask, 4, 0, 1, 0);
        built(x, p & q, 5, 0, 1, 0);
        built(x, p | q, 6, 0, 1, 0);
        built(x, p ^ q, 7, 0, 1, 0);
        built(x, (p + p) & mask, 2, 0, 0, 0);
        built(x, 0, 3, 0, 0, 0);
        built(x, (p * p) & mask, 4, 0, 0, 0);
    }

    private static void moved(int width, int p) {
        int mask = (1 << width) - 1;
        int signed = p >> (width - 1) == 1 ? p - (1 << width) : p;
        BitSolver x = Given.pair(width, p, 1, 0);
        built(x, p ^ mask, 8, 0, 0, 0);
        for (int way = 0; way <= 4; way++) {
            built(x, (p << way) & mask, 9, 0, way, 0);
            built(x, p >> way, 10, 0, way, 0);
            built(x, (signed >> way) & mask, 11, 0, way, 0);
        }
    }

    private static void choice(int width, int p, int q) {
        BitSolver x = Given.pair(width, p, width, q);
        x.formula(1, 0, 1);
        built(x, p < q ? p : q, 12, 2, 0, 1);
        built(x, p < q ? q : p, 12, 2, 1, 0);
    }

    private static void joined() {
        for (int low = 1; low <= 3; low++) {
            for (int high = 1; low + high <= 4; high++) {
                for (int p = 0; p < 1 << low; p++) {
                    for (int q = 0; q < 1 << high; q++) {
                        BitSolver x = Given.pair(low, p, high, q);
                        built(x, p + (q << low), 13, 0, 1, 0);
                        built(x, q + (p << high), 13, 1, 0, 0);
                    }
                }
            }
        }
    }

    private static void bitsOf(int width, int p) {
        BitSolver x = Given.pair(width, p, 1, 0);
        for (int from = 0; from < width; from++) {
            for (int to = from; to < width; to++) {
                int partWidth = to - from + 1;
                built(x, (p >> from) & ((1 << partWidth) - 1), 14, 0, from, to);
                Expect.width(x, x.count(1) - 1, partWidth);
            }
        }
    }

    private static void lastTerms() {
        lastTermLeavesTheRest(0, 6, 4, 0);
        lastTermLeavesTheRest(0, 9, 4, 0);
        lastTermLeavesTheRest(1, 0, 0, 0);
        lastTermLeavesTheRest(1, 2, 0, 0);
        for (int kind = 2; kind <= 7; kind++) {
            lastTermLeavesTheRest(kind, 0, 1, 0);
            lastTermLeavesTheRest(kind, 16, 0, 0);
        }
        lastTermLeavesTheRest(8, 0, 0, 0);
        for (int way = 0; way <= 4; way++) {
            lastTermLeavesTheRest(9, 0, way, 0);
            lastTermLeavesTheRest(10, 0, way, 0);
            lastTermLeavesTheRest(11, 0, way, 0);
        }
        lastTermLeavesTheRest(12, 6, 0, 16);
        lastTermLeavesTheRest(12, 9, 1, 0);
        lastTermLeavesTheRest(13, 17, 17, 0);
        lastTermLeavesTheRest(14, 0, 0, 3);
    }

    /** Just below the limit of 50: no bit of the last term may run over into what else is kept. */
    private static void lastTermLeavesTheRest(int kind, int a, int b, int c) {
        BitSolver x = Given.values();
        x.assertion(x.formula(6, 6, 0));
        for (int i = x.count(1); i < 49; i++) {
            x.term(0, 10, 4, 0);
        }
        Expect.answer("term 49 of kind " + kind, 49, () -> x.term(kind, a, b, c));
        for (int i = 0; i < 16; i++) {
            int value = i;
            x.push();
            x.assertion(value);
            Expect.answer("a model with " + value, value == 6 ? 0 : 1, x::check);
            if (value != 6) {
                Expect.answer("term 0 stays", value, () -> x.valueOf(0));
                Expect.answer("term 48 stays", 10, () -> x.valueOf(48));
                Expect.answer("another variable stays free", 0, () -> x.value(0));
            }
            x.pop();
        }
    }
}
