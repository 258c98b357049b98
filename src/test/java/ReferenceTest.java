import java.util.Random;
import java.util.TreeMap;
import java.util.function.IntSupplier;

/** All promises: long runs of calls, each answered by BitSolver and by Reference alike. */
final class ReferenceTest {
    private static final int RUNS = 400;
    private static final int CALLS = 512;
    private static final int[] WILD = {
        -1, 0, 1, 4, 5, 6, 8, 15, 16, 30, 31, 32, 49, 50, 51, 1000,
        Integer.MIN_VALUE, Integer.MIN_VALUE + 1, Integer.MAX_VALUE
    };

    private final TreeMap<String, Integer> seen;
    private final int run;
    private final Random random;
    private final int boldness;
    private final BitSolver solver = new BitSolver();
    private final Reference reference = new Reference();
    private int call;

    private ReferenceTest(int run, TreeMap<String, Integer> seen) {
        this.run = run;
        this.seen = seen;
        // The seed is the run's number: the calls are the same every time.
        this.random = new Random(run);
        this.boldness = 2 + random.nextInt(8);
    }

    public static void main(String[] args) {
        TreeMap<String, Integer> seen = new TreeMap<>();
        for (int run = 0; run < RUNS; run++) {
            new ReferenceTest(run, seen).go();
        }
        everyOutcomeCameUp(seen);
        Expect.finish();
    }

    /** Runs that never meet an outcome would not test it. */
    private static void everyOutcomeCameUp(TreeMap<String, Integer> seen) {
        String[] needed = {
            "variable answer", "variable IllegalArgumentException",
            "variable IllegalStateException",
            "term answer", "term IllegalArgumentException", "term IllegalStateException",
            "formula answer", "formula IllegalArgumentException", "formula IllegalStateException",
            "assertion answer", "assertion NoSuchElementException",
            "assertion IllegalStateException",
            "push answer", "push IllegalStateException", "pop answer", "pop IllegalStateException",
            "check 0", "check 1",
            "value answer", "value NoSuchElementException", "value UnsupportedOperationException",
            "valueOf answer", "valueOf NoSuchElementException",
            "valueOf UnsupportedOperationException",
            "entailed 0", "entailed 1", "entailed 2", "entailed NoSuchElementException",
            "entailed UnsupportedOperationException",
            "fixed answer", "fixed NoSuchElementException", "fixed UnsupportedOperationException",
            "least answer", "least NoSuchElementException", "least UnsupportedOperationException",
            "assume answer", "assume NoSuchElementException", "assume IllegalStateException",
            "clear answer", "attempt 0", "attempt 1",
            "blame answer", "blame IllegalStateException",
            "count answer", "count IllegalArgumentException"
        };
        for (String outcome : needed) {
            boolean often = seen.getOrDefault(outcome, 0) >= 20;
            Expect.same(outcome + " came up", "true", "" + often);
        }
    }

    private void go() {
        for (call = 0; call < CALLS; call++) {
            int dice = random.nextInt(100);
            if (call < 4) {
                variable();
            } else if (call < 12) {
                term(1, below(reference.count(0)));
            } else if (dice < 25) {
                build();
            } else if (dice < 55) {
                change();
            } else {
                ask();
            }
        }
    }

    private void build() {
        int dice = random.nextInt(20);
        if (dice == 0) {
            variable();
        } else if (dice < 12) {
            term(random.nextInt(15), someTerm());
        } else {
            formula(random.nextInt(11));
        }
    }

    private void change() {
        int dice = random.nextInt(16);
        int f = someFormula();
        if (dice < 3) {
            both("push", "push()", solver::push, reference::push);
        } else if (dice < 6) {
            both("pop", "pop()", solver::pop, reference::pop);
        } else if (dice < 6 + boldness) {
            both("assertion", "assertion(" + f + ")",
                    () -> solver.assertion(f), () -> reference.assertion(f));
        } else if (dice < 15 || random.nextInt(3) > 0) {
            both("assume", "assume(" + f + ")", () -> solver.assume(f), () -> reference.assume(f));
        } else {
            both("clear", "clear()", solver::clear, reference::clear);
        }
    }

    private void ask() {
        int v = number(reference.count(0));
        int t = someTerm();
        int f = someFormula();
        int what = number(7);
        switch (random.nextInt(9)) {
            case 0 -> both("check", "check()", solver::check, reference::check);
            case 1 -> both("value", "value(" + v + ")",
                    () -> solver.value(v), () -> reference.value(v));
            case 2 -> both("valueOf", "valueOf(" + t + ")",
                    () -> solver.valueOf(t), () -> reference.valueOf(t));
            case 3 -> both("entailed", "entailed(" + f + ")",
                    () -> solver.entailed(f), () -> reference.entailed(f));
            case 4 -> both("fixed", "fixed(" + v + ")",
                    () -> solver.fixed(v), () -> reference.fixed(v));
            case 5 -> both("least", "least(" + t + ")",
                    () -> solver.least(t), () -> reference.least(t));
            case 6 -> both("attempt", "attempt()", solver::attempt, reference::attempt);
            case 7 -> both("blame", "blame()", solver::blame, reference::blame);
            default -> both("count", "count(" + what + ")",
                    () -> solver.count(what), () -> reference.count(what));
        }
    }

    private void variable() {
        int width = random.nextInt(12) == 0 ? wild() : 1 + random.nextInt(4);
        both("variable", "variable(" + width + ")",
                () -> solver.variable(width), () -> reference.variable(width));
    }

    private void term(int usualKind, int a0) {
        int kind = random.nextInt(40) == 0 ? wild() : usualKind;
        int a = kind == 0 ? number(16) : kind == 12 ? someFormula() : a0;
        int b = switch (kind) {
            case 0 -> 1 + number(4);
            case 9, 10, 11 -> number(5);
            case 12, 13 -> someTerm();
            case 14 -> number(3);
            default -> termLike(a);
        };
        int c = kind == 12 ? termLike(b) : kind == 14 ? b + random.nextInt(3) : wild();
        both("term", "term(" + kind + ", " + a + ", " + b + ", " + c + ")",
                () -> solver.term(kind, a, b, c), () -> reference.term(kind, a, b, c));
    }

    private void formula(int usualKind) {
        int kind = random.nextInt(40) == 0 ? wild() : usualKind;
        int a = kind <= 5 ? someTerm() : someFormula();
        int b = kind <= 4 ? termLike(a) : kind == 5 ? number(4) : someFormula();
        both("formula", "formula(" + kind + ", " + a + ", " + b + ")",
                () -> solver.formula(kind, a, b), () -> reference.formula(kind, a, b));
    }

    private int someTerm() {
        return number(reference.count(1));
    }

    private int someFormula() {
        return number(reference.count(2));
    }

    private int termLike(int term) {
        int found = someTerm();
        for (int i = 0; i < 6 && reference.widthOfTerm(found) != reference.widthOfTerm(term); i++) {
            found = someTerm();
        }
        return found;
    }

    private int number(int size) {
        return random.nextInt(25) == 0 ? wild() : below(size);
    }

    private int below(int size) {
        return size == 0 ? 0 : random.nextInt(size);
    }

    private int wild() {
        return WILD[random.nextInt(WILD.length)];
    }

    private void both(String name, String text, IntSupplier own, IntSupplier due) {
        String want = Expect.outcome(due);
        String got = Expect.outcome(own);
        Expect.same("run " + run + ", call " + call + ", " + text, want, got);
        seen.merge(name + " " + want, 1, Integer::sum);
        if (!want.endsWith("Exception")) {
            seen.merge(name + " answer", 1, Integer::sum);
        }
    }
}
