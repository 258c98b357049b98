import java.util.function.IntSupplier;

/** What the tests compare with: counts what is not as due, and ends the program by it. */
final class Expect {
    private static int made = 0;
    private static int wrong = 0;

    private Expect() {
    }

    static void answer(String call, int want, IntSupplier run) {
        same(call, Integer.toString(want), outcome(run));
    }

    static void thrown(String call, Class<? extends RuntimeException> want, IntSupplier run) {
        same(call, want.getSimpleName(), outcome(run));
    }

    /** A term has just the bits below its width; one formula is made to tell. */
    static void width(BitSolver x, int term, int width) {
        int made = x.count(2);
        answer("the highest bit of a width " + width, made, () -> x.formula(5, term, width - 1));
        thrown("a bit above a width " + width, IllegalArgumentException.class,
                () -> x.formula(5, term, width));
    }

    static void same(String what, String want, String got) {
        made++;
        if (!want.equals(got)) {
            wrong++;
            System.out.println(what + ": " + got + ", due is " + want);
        }
    }

    /** The answer of a call as a text, or the name of the exception that it throws. */
    static String outcome(IntSupplier run) {
        try {
            return Integer.toString(run.getAsInt());
        } catch (RuntimeException e) {
            return e.getClass().getSimpleName();
        }
    }

    static void finish() {
        System.out.println((made - wrong) + " answers as due, " + wrong + " not");
        if (wrong != 0 || made == 0) {
            System.exit(1);
        }
    }
}
