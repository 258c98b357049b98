import java.util.NoSuchElementException;

/** Promises 1 (a new object), 2 (variable) and 18 (count). */
final class StateTest {
    private static final Class<IllegalStateException> STATE = IllegalStateException.class;
    private static final Class<NoSuchElementException> NONE = NoSuchElementException.class;

    public static void main(String[] args) {
        newObject();
        objectsAreApart();
        variableNumbers();
        variableAfterFormulas();
        counts();
        Expect.finish();
    }

    private static void newObject() {
        BitSolver x = new BitSolver();
        for (int what = 0; what <= 6; what++) {
            int asked = what;
            Expect.answer("new: count(" + what + ")", 0, () -> x.count(asked));
        }
        Expect.answer("new: check", 1, x::check);
        Expect.answer("new: attempt", 1, x::attempt);
        Expect.answer("new: clear", 0, x::clear);
        Expect.thrown("new: pop", STATE, x::pop);
        Expect.thrown("new: blame", STATE, x::blame);
        Expect.thrown("new: value", NONE, () -> x.value(0));
        Expect.thrown("new: fixed", NONE, () -> x.fixed(0));
        Expect.thrown("new: valueOf", NONE, () -> x.valueOf(0));
        Expect.thrown("new: least", NONE, () -> x.least(0));
        Expect.thrown("new: entailed", NONE, () -> x.entailed(0));
        Expect.thrown("new: assertion", NONE, () -> x.assertion(0));
        Expect.thrown("new: assume", NONE, () -> x.assume(0));
    }

    private static void objectsAreApart() {
        BitSolver x = new BitSolver();
        BitSolver y = new BitSolver();
        x.variable(1);
        x.term(1, 0, 0, 0);
        x.formula(1, 0, 0);
        x.assertion(0);
        Expect.answer("apart: the one has no model", 0, x::check);
        Expect.answer("apart: the other has", 1, y::check);
        Expect.answer("apart: the other has no variables", 0, () -> y.count(0));
    }

    private static void variableNumbers() {
        BitSolver x = new BitSolver();
        for (int i = 0; i < 4; i++) {
            int width = i + 1;
            Expect.answer("variable(" + width + ")", i, () -> x.variable(width));
        }
        Expect.answer("variables made", 4, () -> x.count(0));
        Expect.answer("bits made", 10, () -> x.count(6));
    }

    private static void variableAfterFormulas() {
        BitSolver x = new BitSolver();
        x.variable(2);
        x.term(1, 0, 0, 0);
        x.term(0, 2, 2, 0);
        x.formula(0, 0, 1);
        x.assertion(0);
        Expect.answer("later variable", 1, () -> x.variable(4));
        Expect.answer("the first keeps its value", 2, () -> x.value(0));
        Expect.answer("the later one is free", 0, () -> x.value(1));
        Expect.answer("no bit of it is fixed", 0, () -> x.fixed(1));
        Expect.answer("all bits of the first are", 3, () -> x.fixed(0));
        x.term(1, 1, 0, 0);
        x.term(0, 9, 4, 0);
        x.formula(1, 3, 2);
        x.assertion(1);
        Expect.answer("the first still has its value", 2, () -> x.value(0));
        Expect.answer("the later one is 10", 10, () -> x.value(1));
    }

    private static void counts() {
        BitSolver x = new BitSolver();
        x.variable(3);
        x.variable(4);
        x.term(1, 0, 0, 0);
        x.term(1, 0, 0, 0);
        x.term(1, 1, 0, 0);
        for (int i = 0; i < 4; i++) {
            x.formula(2, 0, 1);
        }
        x.assertion(0);
        x.push();
        x.assertion(1);
        x.push();
        x.push();
        for (int i = 0; i < 3; i++) {
            x.assertion(i);
        }
        for (int i = 0; i < 6; i++) {
            x.assume(0);
        }
        int[] want = {2, 3, 4, 5, 3, 6, 7};
        for (int what = 0; what < want.length; what++) {
            int asked = what;
            Expect.answer("count(" + what + ")", want[what], () -> x.count(asked));
        }
        x.pop();
        Expect.answer("count(3) behind pop", 2, () -> x.count(3));
        Expect.answer("count(4) behind pop", 2, () -> x.count(4));
        Expect.answer("count(5) behind pop", 6, () -> x.count(5));
        x.clear();
        Expect.answer("count(5) behind clear", 0, () -> x.count(5));
    }
}
