import java.lang.reflect.InvocationTargetException;
import java.lang.reflect.Method;
import java.lang.reflect.Modifier;
import java.util.Arrays;
import java.util.List;
import java.util.function.ToIntFunction;

/** "An object is used for at most 512 calls after it has been made": all of them are answered. */
final class CallsTest {
    private static final int MOST_CALLS = 512;
    private static final int CALLS_OF_USED = 26;
    private static final int[] ARGUMENTS = {
        Integer.MIN_VALUE, -1, 0, 1, 2, 3, 4, 5, 7, 14, 49, 50, Integer.MAX_VALUE
    };

    public static void main(String[] args) throws IllegalAccessException {
        lastCallAnswers();
        lastCallIsRefused();
        sameCallAllTheTime();
        limitsAfterManyTurns();
        laterCallsAreFreeButEnd();
        Expect.finish();
    }

    /** An object in the state USED that has been asked 511 times. */
    private static BitSolver beforeTheLast() {
        BitSolver x = State.USED.make();
        int calls = CALLS_OF_USED;
        for (int i = 0; calls < MOST_CALLS - 1; i++) {
            calls += aroundAndBack(x, i % 6, MOST_CALLS - 1 - calls);
        }
        return x;
    }

    /** Makes one or two calls, as there is room, that leave the state as it was. */
    private static int aroundAndBack(BitSolver x, int turn, int room) {
        if (turn == 0 && room >= 2) {
            x.push();
            x.pop();
            return 2;
        }
        if (turn == 1) {
            Expect.thrown("variable(5)", IllegalArgumentException.class, () -> x.variable(5));
        } else if (turn == 2) {
            x.fixed(2);
        } else if (turn == 3) {
            Expect.thrown("blame()", IllegalStateException.class, x::blame);
        } else if (turn == 4) {
            x.least(7);
        } else {
            x.attempt();
        }
        return 1;
    }

    private static void last(String call, int want, ToIntFunction<BitSolver> run) {
        BitSolver x = beforeTheLast();
        Expect.answer("call 512, " + call, want, () -> run.applyAsInt(x));
    }

    private static void lastCallAnswers() {
        last("variable(4)", 3, x -> x.variable(4));
        last("term(4, 2, 4, 0)", 8, x -> x.term(4, 2, 4, 0));
        last("formula(10, 2, 1)", 6, x -> x.formula(10, 2, 1));
        last("assertion(3)", 5, x -> x.assertion(3));
        last("push()", 4, BitSolver::push);
        last("pop()", 1, BitSolver::pop);
        last("check()", 1, BitSolver::check);
        last("value(1)", 2, x -> x.value(1));
        last("valueOf(5)", 5, x -> x.valueOf(5));
        last("entailed(4)", 1, x -> x.entailed(4));
        last("entailed(3)", 2, x -> x.entailed(3));
        last("fixed(1)", 0, x -> x.fixed(1));
        last("least(1)", 0, x -> x.least(1));
        last("assume(3)", 3, x -> x.assume(3));
        last("clear()", 2, BitSolver::clear);
        last("attempt()", 1, BitSolver::attempt);
        last("count(1)", 8, x -> x.count(1));
        last("count(3)", 4, x -> x.count(3));
    }

    private static void lastRefused(String call, Class<? extends RuntimeException> want,
            ToIntFunction<BitSolver> run) {
        BitSolver x = beforeTheLast();
        Expect.thrown("call 512, " + call, want, () -> run.applyAsInt(x));
    }

    private static void lastCallIsRefused() {
        lastRefused("variable(0)", IllegalArgumentException.class, x -> x.variable(0));
        lastRefused("term(8, 8, 0, 0)", IllegalArgumentException.class, x -> x.term(8, 8, 0, 0));
        lastRefused("formula(6, 6, 0)", IllegalArgumentException.class, x -> x.formula(6, 6, 0));
        lastRefused("blame()", IllegalStateException.class, BitSolver::blame);
        lastRefused("count(7)", IllegalArgumentException.class, x -> x.count(7));
    }

    private static void sameCallAllTheTime() {
        all512("check()", "1", State.NEW, BitSolver::check);
        all512("pop()", "IllegalStateException", State.NEW, BitSolver::pop);
        all512("blame()", "IllegalStateException", State.NEW, BitSolver::blame);
        all512("variable(5)", "IllegalArgumentException", State.NEW, x -> x.variable(5));
        all512("assume(0)", "NoSuchElementException", State.NEW, x -> x.assume(0));
        all512("clear()", "0", State.NEW, BitSolver::clear);
        all512("count(4)", "3", State.USED, x -> x.count(4));
        all512("value(1)", "2", State.USED, x -> x.value(1));
        all512("blame()", "5", State.CROSSED, BitSolver::blame);
        all512("least(0)", "UnsupportedOperationException", State.HOPELESS, x -> x.least(0));
        all512("push()", "IllegalStateException", State.FULL, BitSolver::push);
        all512("assertion(3)", "IllegalStateException", State.FULL, x -> x.assertion(3));
        all512("assume(3)", "IllegalStateException", State.FULL, x -> x.assume(3));
    }

    /** As many calls as are left behind those that made the state, or some less. */
    private static void all512(String call, String want, State state,
            ToIntFunction<BitSolver> run) {
        int before = state == State.NEW ? 0 : state == State.FULL ? 160 : CALLS_OF_USED + 2;
        BitSolver x = state.make();
        for (int i = before; i < MOST_CALLS; i++) {
            Expect.same(state + ": " + call + " as call " + (i + 1),
                    want, Expect.outcome(() -> run.applyAsInt(x)));
        }
    }

    /** What goes leaves no trace, however often it comes and goes. */
    private static void limitsAfterManyTurns() {
        BitSolver x = new BitSolver();
        x.term(0, 1, 1, 0);
        x.formula(0, 0, 0);
        x.formula(1, 0, 0);
        int calls = 3;
        while (calls <= MOST_CALLS - 29) {
            calls += levelsUpAndDown(x);
            calls += assumptionsUpAndDown(x);
        }
        Expect.answer("assertions at the end", 0, () -> x.count(3));
        Expect.answer("a model at the end", 1, x::check);
    }

    private static int levelsUpAndDown(BitSolver x) {
        for (int level = 1; level <= 5; level++) {
            Expect.answer("push", level, x::push);
            int due = level;
            Expect.answer("assertion", level, () -> x.assertion(due == 5 ? 1 : 0));
        }
        Expect.answer("check", 0, x::check);
        for (int level = 5; level >= 1; level--) {
            Expect.answer("pop", 1, x::pop);
        }
        return 16;
    }

    private static int assumptionsUpAndDown(BitSolver x) {
        for (int n = 1; n <= 8; n++) {
            int due = n;
            Expect.answer("assume", n, () -> x.assume(due == 3 ? 1 : 0));
        }
        Expect.thrown("assume", IllegalStateException.class, () -> x.assume(0));
        Expect.answer("blame", 4, x::blame);
        Expect.answer("clear", 8, x::clear);
        return 11;
    }

    /** "what later calls answer is free", but nothing beside what the face names is thrown. */
    private static void laterCallsAreFreeButEnd() throws IllegalAccessException {
        BitSolver x = State.FULL.make();
        Method[] face = BitSolver.class.getDeclaredMethods();
        // The order that reflection gives is not told; by name the calls are always the same.
        Arrays.sort(face, (a, b) -> a.getName().compareTo(b.getName()));
        for (int i = 0; i < 3 * MOST_CALLS; i++) {
            for (Method method : face) {
                if (Modifier.isPublic(method.getModifiers())) {
                    later(x, method, i);
                }
            }
        }
    }

    private static void later(BitSolver x, Method method, int i) throws IllegalAccessException {
        Object[] with = new Object[method.getParameterCount()];
        int rest = i;
        for (int k = 0; k < with.length; k++) {
            with[k] = ARGUMENTS[rest % ARGUMENTS.length];
            rest = rest / ARGUMENTS.length + 7 * k;
        }
        String thrown = "nothing";
        boolean named = true;
        try {
            method.invoke(x, with);
        } catch (InvocationTargetException e) {
            thrown = e.getCause().getClass().getName();
            named = List.of(method.getExceptionTypes()).contains(e.getCause().getClass());
        }
        Expect.same(method.getName() + Arrays.toString(with) + " throws " + thrown,
                "true", "" + named);
    }
}
