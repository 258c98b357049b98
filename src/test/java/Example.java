/** How BitSolver is used. What a line prints stands behind it, up to the colon. */
public final class Example {
    public static void main(String[] arguments) {
        BitSolver solver = new BitSolver();
        int v = solver.variable(4);
        int w = solver.variable(4);

        int x = solver.term(1, v, 0, 0);                 // variable v as a term
        int y = solver.term(1, w, 0, 0);                 // variable w as a term
        int sum = solver.term(2, x, y, 0);               // x + y, what goes beyond 4 bits lost
        int nine = solver.term(0, 9, 4, 0);              // the number 9 of width 4

        int sumIsNine = solver.formula(0, sum, nine);    // x + y equals 9
        int xBelowY = solver.formula(1, x, y);           // x is less than y
        int yBelowX = solver.formula(1, y, x);           // y is less than x
        int xIsOdd = solver.formula(5, x, 0);            // bit 0 of x is 1

        System.out.println(solver.assertion(sumIsNine)); // 1: one formula is asserted
        System.out.println(solver.check());              // 1: there is a model
        System.out.println(solver.value(v));             // 0: in the least model
        System.out.println(solver.value(w));             // 9: in the same model

        System.out.println(solver.push());               // 1: level 1 is open
        System.out.println(solver.assertion(xIsOdd));    // 2: two formulas are asserted
        System.out.println(solver.value(v));             // 1: the least odd value
        System.out.println(solver.valueOf(y));           // 8: in the same model
        System.out.println(solver.least(y));             // 0: in another model, where x is 9
        System.out.println(solver.fixed(w));             // 1: bit 0 alone is always the same
        System.out.println(solver.entailed(sumIsNine));  // 1: holds in all models
        System.out.println(solver.entailed(xBelowY));    // 2: holds in some
        System.out.println(solver.pop());                // 1: one assertion went

        System.out.println(solver.assume(xBelowY));      // 1: at place 0
        System.out.println(solver.assume(xIsOdd));       // 2: at place 1
        System.out.println(solver.assume(yBelowX));      // 3: at place 2
        System.out.println(solver.attempt());            // 0: they cannot all hold
        System.out.println(solver.blame());              // 5: places 0 and 2 are to blame
        System.out.println(solver.clear());              // 3: so many assumptions went

        try {
            solver.variable(4);
        } catch (IllegalStateException e) {
            System.out.println("refused");               // refused: 12 bits would be too many
        }
        System.out.println(solver.count(6));             // 8: bits, as before
    }
}
