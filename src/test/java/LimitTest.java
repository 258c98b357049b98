import java.util.function.IntConsumer;
import java.util.function.Supplier;

/**
 * The sentences under 'Terms' that name a limit, in the document's order: what stands just inside
 * is answered, what stands just beyond is refused and changes nothing.
 */
final class LimitTest {
    private static final Class<IllegalStateException> STATE = IllegalStateException.class;

    public static void main(String[] args) {
        variablesAtMost6();
        variableWidths1To4();
        bitsAtMost10();
        bitsAtMost10InAllOrders();
        eachWidth(LimitTest::valuesOfAWidth);
        eachWidth(LimitTest::signs);
        termsAtMost50();
        eachWidth(LimitTest::numbersOfAWidth);
        numberWidths1To4();
        ofOneWidth();
        eachWidth(LimitTest::beyondTheWidthIsLost);
        eachWidth(LimitTest::movedUp);
        eachWidth(LimitTest::movedDown);
        eachWidth(LimitTest::movedDownWithTheHighestBit);
        ways0To4();
        choiceOfOneWidth();
        widthsTogetherAtMost4();
        eachWidth(LimitTest::bitsFromTo);
        formulasAtMost50();
        eachWidth(LimitTest::bitOfATerm);
        namedMustHaveBeenMade();
        level0IsAlwaysThere();
        othersAtMost5();
        assertedAtTheLevelOpenedLast();
        assertedAtMost30();
        assertedAtMost30AtATime();
        assumptionsAtMost8();
        Expect.finish();
    }

    private static void eachWidth(IntConsumer test) {
        for (int width = 1; width <= 4; width++) {
            test.accept(width);
        }
    }

    private static BitSolver withVariables(int... widths) {
        BitSolver x = new BitSolver();
        for (int width : widths) {
            x.variable(width);
        }
        return x;
    }

    /** "VARIABLES are numbered 0, 1, .. as they are made, at most 6" */
    private static void variablesAtMost6() {
        BitSolver x = new BitSolver();
        for (int i = 0; i < 6; i++) {
            Expect.answer("variable " + i, i, () -> x.variable(1));
        }
        Expect.answer("six of them", 6, () -> x.count(0));
        Refusal.state("variable 6", () -> withVariables(1, 1, 1, 1, 1, 1), y -> y.variable(1));
        Refusal.state("variable 6 behind 10 bits",
                () -> withVariables(4, 2, 1, 1, 1, 1), y -> y.variable(1));
    }

    /** "each with a WIDTH 1 .. 4" */
    private static void variableWidths1To4() {
        for (int width = 1; width <= 4; width++) {
            BitSolver x = new BitSolver();
            int given = width;
            Expect.answer("variable(" + width + ")", 0, () -> x.variable(given));
            Expect.answer("its bits", width, () -> x.count(6));
            x.term(1, 0, 0, 0);
            Expect.width(x, 0, width);
        }
        Refusal.argument("variable(0)", BitSolver::new, y -> y.variable(0));
        Refusal.argument("variable(5)", BitSolver::new, y -> y.variable(5));
    }

    /** "at most 10 bits together" */
    private static void bitsAtMost10() {
        int[][] before = {{4, 4, 1}, {4, 4}, {4, 3}, {4, 2}};
        for (int i = 1; i <= 4; i++) {
            int width = i;
            int[] widths = before[width - 1];
            BitSolver x = withVariables(widths);
            Expect.answer("10 bits with the last " + width, widths.length,
                    () -> x.variable(width));
            Expect.answer("10 bits", 10, () -> x.count(6));
            if (width < 4) {
                Refusal.state("11 bits with the last " + (width + 1),
                        () -> withVariables(widths), y -> y.variable(width + 1));
            }
            Refusal.state("10 bits and " + width,
                    () -> withVariables(4, 4, 2), y -> y.variable(width));
        }
    }

    private static void bitsAtMost10InAllOrders() {
        for (int order = 0; order < 1 << 14; order++) {
            BitSolver x = new BitSolver();
            int made = 0;
            int bits = 0;
            for (int i = 0; i < 7; i++) {
                int width = 1 + ((order >> (2 * i)) & 3);
                String call = "variable(" + width + ") behind " + made + " of " + bits + " bits";
                if (made < 6 && bits + width <= 10) {
                    Expect.answer(call, made, () -> x.variable(width));
                    made++;
                    bits += width;
                } else {
                    Expect.thrown(call, STATE, () -> x.variable(width));
                }
            }
            Expect.answer("all bits", bits, () -> x.count(6));
        }
    }

    /**
     * "A value of a width w is a number 0 .. 2 to the power w - 1; its bit k counts 2 to the
     * power k."
     */
    private static void valuesOfAWidth(int width) {
        int most = (1 << width) - 1;
        BitSolver x = withVariables(width);
        x.term(1, 0, 0, 0);
        x.term(0, most, width, 0);
        x.formula(2, 1, 0);
        x.formula(1, 1, 0);
        Expect.answer("the least value of width " + width, 0, () -> x.value(0));
        x.push();
        for (int k = 0; k < width; k++) {
            x.assertion(x.formula(5, 0, k));
            int due = (2 << k) - 1;
            Expect.answer("with the bits 0 .. " + k, due, () -> x.value(0));
            Expect.answer("the same of the term", due, () -> x.valueOf(0));
        }
        x.pop();
        x.assertion(0);
        Expect.answer("the greatest value", most, () -> x.value(0));
        x.assertion(1);
        Expect.answer("none is greater", 0, x::check);
    }

    /** "Read with a SIGN it is that, less 2 to the power w if its highest bit is 1." */
    private static void signs(int width) {
        int size = 1 << width;
        // In this order: the least number has the highest bit alone, the greatest all but it.
        for (int i = 0; i < size; i++) {
            int number = (i + size / 2) % size;
            int next = (number + 1) % size;
            boolean last = i == size - 1;
            BitSolver x = new BitSolver();
            x.term(0, number, width, 0);
            x.term(0, next, width, 0);
            holds(x, !last, 3, 0, 1);
            holds(x, last, 3, 1, 0);
            holds(x, !last, 4, 0, 1);
            holds(x, last, 4, 1, 0);
            holds(x, false, 3, 0, 0);
            holds(x, true, 4, 0, 0);
        }
    }

    private static void holds(BitSolver x, boolean want, int kind, int a, int b) {
        int made = x.formula(kind, a, b);
        String text = "formula(" + kind + ") of " + x.valueOf(a) + " and " + x.valueOf(b);
        Expect.answer(text, want ? 1 : 0, () -> x.entailed(made));
    }

    /** A term of a kind out of the numbers p and q of a width, which are the terms 0 and 1. */
    private static void gives(int want, int width, int kind, int p, int q) {
        BitSolver x = new BitSolver();
        x.term(0, p, width, 0);
        x.term(0, q, width, 0);
        madeAs(x, want, width, kind, 0, 1, 0);
    }

    private static void madeAs(BitSolver x, int want, int width, int kind, int a, int b, int c) {
        int made = x.count(1);
        String call = "term(" + kind + ", " + a + ", " + b + ", " + c + ") of width " + width;
        Expect.answer(call, made, () -> x.term(kind, a, b, c));
        Expect.answer("value of " + call, want, () -> x.valueOf(made));
        Expect.width(x, made, width);
    }

    private static Supplier<BitSolver> withTerms(int number) {
        return () -> {
            BitSolver x = State.USED.make();
            for (int i = x.count(1); i < number; i++) {
                x.term(0, 10, 4, 0);
            }
            return x;
        };
    }

    /** "TERMS are numbered 0, 1, .. as they are made, at most 50, each with a width." */
    private static void termsAtMost50() {
        for (int i = 0; i <= 14; i++) {
            int kind = i;
            int[] with = State.termArguments(kind);
            BitSolver x = withTerms(49).get();
            Expect.answer("term 49 of kind " + kind, 49,
                    () -> x.term(kind, with[0], with[1], with[2]));
            Expect.answer("50 of them", 50, () -> x.count(1));
            Refusal.state("term 50 of kind " + kind, withTerms(50),
                    y -> y.term(kind, with[0], with[1], with[2]));
        }
    }

    /** "0 the number a of width b": a number out of its width is refused. */
    private static void numbersOfAWidth(int width) {
        int most = (1 << width) - 1;
        BitSolver x = new BitSolver();
        madeAs(x, 0, width, 0, 0, width, 0);
        madeAs(x, most, width, 0, most, width, 0);
        Refusal.argument("number " + (most + 1) + " of width " + width,
                State.USED::make, y -> y.term(0, most + 1, width, 0));
        Refusal.argument("number -1 of width " + width,
                State.USED::make, y -> y.term(0, -1, width, 0));
    }

    private static void numberWidths1To4() {
        int[] beyond = {0, 5};
        for (int width : beyond) {
            for (int number = -1; number <= 1; number++) {
                int given = number;
                Refusal.argument("number " + number + " of width " + width,
                        State.USED::make, y -> y.term(0, given, width, 0));
            }
        }
    }

    /** "of one width, which is theirs; what goes beyond it is lost" */
    private static void beyondTheWidthIsLost(int width) {
        int most = (1 << width) - 1;
        int highest = 1 << (width - 1);
        gives(most, width, 2, most, 0);
        gives(0, width, 2, most, 1);
        gives(most - 1, width, 2, most, most);
        gives(0, width, 2, highest, highest);
        gives(0, width, 3, most, most);
        gives(most, width, 3, 0, 1);
        gives(1, width, 3, 0, most);
        gives(most, width, 3, most - 1, most);
        gives(most, width, 4, most, 1);
        gives(1, width, 4, most, most);
        gives(highest, width, 4, highest, most);
        if (width > 1) {
            gives(0, width, 4, highest, 2);
            gives(most - 1, width, 4, most, 2);
        }
    }

    /** "9 a moved up by b bits (0 .. 4), zeros coming in" */
    private static void movedUp(int width) {
        int most = (1 << width) - 1;
        int[] due = {most, most & 14, most & 12, most & 8, 0};
        BitSolver x = new BitSolver();
        x.term(0, most, width, 0);
        for (int way = 0; way <= 4; way++) {
            madeAs(x, due[way], width, 9, 0, way, 0);
        }
    }

    /** "10 moved down likewise" */
    private static void movedDown(int width) {
        int most = (1 << width) - 1;
        int[] due = {most, most / 2, most / 4, most / 8, 0};
        BitSolver x = new BitSolver();
        x.term(0, most, width, 0);
        for (int way = 0; way <= 4; way++) {
            madeAs(x, due[way], width, 10, 0, way, 0);
        }
    }

    /** "11 moved down, the highest bit coming in" */
    private static void movedDownWithTheHighestBit(int width) {
        int most = (1 << width) - 1;
        int[] dueOf8 = {8, 12, 14, 15, 15};
        int[] dueOf7 = {7, 3, 1, 0, 0};
        BitSolver x = new BitSolver();
        x.term(0, 1 << (width - 1), width, 0);
        x.term(0, most / 2, width, 0);
        for (int way = 0; way <= 4; way++) {
            madeAs(x, dueOf8[way] >> (4 - width), width, 11, 0, way, 0);
            madeAs(x, dueOf7[way] >> (4 - width), width, 11, 1, way, 0);
        }
    }

    private static void ways0To4() {
        for (int i = 9; i <= 11; i++) {
            int kind = i;
            for (int j = 0; j <= 3; j++) {
                int term = j;
                String moved = "kind " + kind + " of width " + (term + 1);
                Refusal.argument(moved + " by -1",
                        State.USED::make, y -> y.term(kind, term, -1, 0));
                Refusal.argument(moved + " by 5", State.USED::make, y -> y.term(kind, term, 5, 0));
            }
        }
    }

    /** "of the terms a and b, of one width", "the terms a and b, of one width" */
    private static void ofOneWidth() {
        for (int i = 0; i <= 3; i++) {
            for (int j = 0; j <= 3; j++) {
                if (i == j) {
                    fit(i);
                } else {
                    doNotFit(i, j);
                }
            }
        }
    }

    private static void fit(int term) {
        for (int i = 2; i <= 7; i++) {
            int kind = i;
            BitSolver x = State.USED.make();
            int made = x.count(1);
            Expect.answer("kind " + kind, made, () -> x.term(kind, term, term, 0));
            Expect.width(x, made, term + 1);
        }
        BitSolver x = State.USED.make();
        for (int i = 0; i <= 4; i++) {
            int kind = i;
            Expect.answer("kind " + kind, x.count(2), () -> x.formula(kind, term, term));
        }
    }

    private static void doNotFit(int a, int b) {
        String widths = " of the widths " + (a + 1) + " and " + (b + 1);
        for (int i = 2; i <= 7; i++) {
            int kind = i;
            Refusal.argument("term of kind " + kind + widths,
                    State.USED::make, y -> y.term(kind, a, b, 0));
        }
        for (int i = 0; i <= 4; i++) {
            int kind = i;
            Refusal.argument("formula of kind " + kind + widths,
                    State.USED::make, y -> y.formula(kind, a, b));
        }
    }

    /** "12 if the formula a holds b, else c, of one width" */
    private static void choiceOfOneWidth() {
        for (int i = 0; i <= 3; i++) {
            for (int j = 0; j <= 3; j++) {
                int yes = i;
                int no = j;
                BitSolver x = State.USED.make();
                int made = x.count(1);
                if (i == j) {
                    Expect.answer("choice", made, () -> x.term(12, 0, yes, no));
                    Expect.width(x, made, yes + 1);
                } else {
                    Refusal.argument("choice of the widths " + (yes + 1) + " and " + (no + 1),
                            State.USED::make, y -> y.term(12, 0, yes, no));
                }
            }
        }
    }

    /** "13 the term a with the term b above it, their widths together at most 4" */
    private static void widthsTogetherAtMost4() {
        for (int i = 1; i <= 4; i++) {
            for (int j = 1; j <= 4; j++) {
                int low = i;
                int high = j;
                if (low + high <= 4) {
                    BitSolver x = new BitSolver();
                    x.term(0, (1 << low) - 1, low, 0);
                    x.term(0, 1, high, 0);
                    madeAs(x, (2 << low) - 1, low + high, 13, 0, 1, 0);
                } else {
                    Refusal.argument("widths " + low + " and " + high + " together",
                            State.USED::make, y -> y.term(13, low - 1, high - 1, 0));
                }
            }
        }
    }

    /** "14 the bits b to c of a (b <= c)" */
    private static void bitsFromTo(int width) {
        int most = (1 << width) - 1;
        BitSolver x = new BitSolver();
        x.term(0, most, width, 0);
        madeAs(x, most, width, 14, 0, 0, width - 1);
        madeAs(x, 1, 1, 14, 0, 0, 0);
        madeAs(x, 1, 1, 14, 0, width - 1, width - 1);
        int term = width - 1;
        int[][] beyond = {
            {0, width}, {width - 1, width}, {width, width}, {-1, 0}, {-1, -1}, {-1, width - 1},
            {width, width - 1}, {1, 0}, {0, -1}
        };
        for (int[] bits : beyond) {
            Refusal.argument("bits " + bits[0] + " to " + bits[1] + " of " + width,
                    State.USED::make, y -> y.term(14, term, bits[0], bits[1]));
        }
    }

    private static Supplier<BitSolver> withFormulas(int number) {
        return () -> {
            BitSolver x = State.USED.make();
            for (int i = x.count(2); i < number; i++) {
                x.formula(i % 2, 0, 0);
            }
            return x;
        };
    }

    /** "FORMULAS are numbered 0, 1, .. as they are made, at most 50." */
    private static void formulasAtMost50() {
        for (int i = 0; i <= 10; i++) {
            int kind = i;
            int[] with = State.formulaArguments(kind);
            BitSolver x = withFormulas(49).get();
            Expect.answer("formula 49 of kind " + kind, 49,
                    () -> x.formula(kind, with[0], with[1]));
            Expect.answer("50 of them", 50, () -> x.count(2));
            Refusal.state("formula 50 of kind " + kind, withFormulas(50),
                    y -> y.formula(kind, with[0], with[1]));
        }
    }

    /** "5 bit b of the term a is 1" */
    private static void bitOfATerm(int width) {
        int term = width - 1;
        BitSolver x = State.USED.make();
        int made = x.count(2);
        Expect.answer("bit 0 of " + width, made, () -> x.formula(5, term, 0));
        Expect.answer("the last bit of " + width, made + 1, () -> x.formula(5, term, width - 1));
        Refusal.argument("bit -1 of " + width, State.USED::make, y -> y.formula(5, term, -1));
        Refusal.argument("bit " + width + " of " + width,
                State.USED::make, y -> y.formula(5, term, width));
    }

    /** "Terms and formulas named must have been made before." */
    private static void namedMustHaveBeenMade() {
        BitSolver x = State.USED.make();
        int term = x.count(1);
        int formula = x.count(2);
        Refusal.argument("a term of itself", State.USED::make, y -> y.term(8, term, 0, 0));
        Refusal.argument("a formula of itself", State.USED::make, y -> y.formula(6, formula, 0));
        Refusal.argument("a formula of the next term",
                State.USED::make, y -> y.formula(5, term, 0));
        Refusal.argument("a term of the next formula",
                State.USED::make, y -> y.term(12, formula, 0, 0));
        Expect.answer("a term of the last", term, () -> x.term(8, term - 1, 0, 0));
        Expect.answer("a term of that", term + 1, () -> x.term(8, term, 0, 0));
        Expect.answer("a formula of the last", formula, () -> x.formula(6, formula - 1, 0));
        Expect.answer("a formula of that", formula + 1, () -> x.formula(6, formula, 0));
        Expect.answer("a formula of that term", formula + 2, () -> x.formula(5, term, 0));
        Expect.answer("a term of that formula", term + 2, () -> x.term(12, formula, 0, 0));
    }

    private static BitSolver backAtLevel0() {
        BitSolver x = State.USED.make();
        for (int i = 0; i < 3; i++) {
            x.pop();
        }
        return x;
    }

    /** "LEVELS: level 0 is always there" */
    private static void level0IsAlwaysThere() {
        Expect.answer("the level of a new object", 0, () -> new BitSolver().count(4));
        BitSolver x = new BitSolver();
        Expect.answer("push", 1, x::push);
        Expect.answer("pop of level 1", 0, x::pop);
        Refusal.state("pop of a new object", BitSolver::new, BitSolver::pop);
        Expect.answer("one assertion stands at level 0", 1, () -> backAtLevel0().count(3));
        Refusal.state("pop of level 0", LimitTest::backAtLevel0, BitSolver::pop);
    }

    private static BitSolver withAllLevels() {
        BitSolver x = State.USED.make();
        x.push();
        x.push();
        x.assertion(2);
        return x;
    }

    /** "at most 5 others can be opened" */
    private static void othersAtMost5() {
        BitSolver x = new BitSolver();
        for (int i = 1; i <= 5; i++) {
            Expect.answer("push " + i, i, x::push);
        }
        Expect.answer("the level opened last", 5, () -> x.count(4));
        Refusal.state("push 6", LimitTest::withAllLevels, BitSolver::push);
        Expect.answer("pop of level 5", 0, x::pop);
        Expect.answer("push in its place", 5, x::push);
    }

    /** "A formula is ASSERTED at the level opened last, and goes with it" */
    private static void assertedAtTheLevelOpenedLast() {
        BitSolver x = backAtLevel0();
        for (int i = 1; i <= 5; i++) {
            x.push();
            x.assertion(i % 2 == 0 ? 0 : 5);
        }
        Expect.answer("what never holds, at level 5", 7, () -> x.assertion(x.formula(1, 0, 0)));
        Expect.answer("no model", 0, x::check);
        Expect.answer("two go with level 5", 2, x::pop);
        Expect.answer("a model", 1, x::check);
        for (int i = 4; i >= 1; i--) {
            Expect.answer("one goes with level " + i, 1, x::pop);
            Expect.answer("so many are left", i, () -> x.count(3));
        }
    }

    private static BitSolver with30AtOnce() {
        BitSolver x = backAtLevel0();
        for (int i = x.count(3); i < 30; i++) {
            x.assertion(4);
        }
        return x;
    }

    private static BitSolver with30AtAllLevels() {
        BitSolver x = withAllLevels();
        for (int i = x.count(3); i < 30; i++) {
            x.assertion(4);
        }
        return x;
    }

    /** "at most 30 are asserted" */
    private static void assertedAtMost30() {
        BitSolver x = backAtLevel0();
        for (int i = 2; i <= 30; i++) {
            Expect.answer("assertion " + i, i, () -> x.assertion(4));
        }
        Expect.answer("the least model", 0, () -> x.value(0));
        Refusal.state("assertion 31, one that would change the least model",
                LimitTest::with30AtOnce, y -> y.assertion(2));
        Refusal.state("assertion 31, one that is asserted",
                LimitTest::with30AtOnce, y -> y.assertion(4));
        Refusal.state("assertion 31 over all levels",
                LimitTest::with30AtAllLevels, y -> y.assertion(3));
    }

    /** "at a time" */
    private static void assertedAtMost30AtATime() {
        BitSolver x = with30AtAllLevels();
        Expect.answer("pop of level 5", 26, x::pop);
        for (int i = 5; i <= 30; i++) {
            Expect.answer("assertion " + i + " at level 4", i, () -> x.assertion(2));
        }
        Expect.thrown("assertion 31 at level 4", STATE, () -> x.assertion(2));
        Expect.answer("the assertions count", 1, () -> x.value(0));
    }

    private static BitSolver with8Assumptions() {
        BitSolver x = State.USED.make();
        for (int i = x.count(5); i < 8; i++) {
            x.assume(2);
        }
        return x;
    }

    /** "ASSUMPTIONS are formulas in an order, at most 8." */
    private static void assumptionsAtMost8() {
        BitSolver x = State.USED.make();
        x.clear();
        x.assume(3);
        for (int i = 2; i <= 8; i++) {
            Expect.answer("assumption " + i, i, () -> x.assume(2));
        }
        Expect.answer("the first and the last are left", 129, x::blame);
        Refusal.state("assumption 9", LimitTest::with8Assumptions, y -> y.assume(3));
        Refusal.state("assumption 9, one that is there",
                LimitTest::with8Assumptions, y -> y.assume(2));
        Expect.answer("clear", 8, x::clear);
        Expect.answer("the first again", 1, () -> x.assume(2));
    }
}
