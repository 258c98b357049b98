/** What several tests begin with. */
final class Given {
    private Given() {
    }

    /** Variable 0 is p and variable 1 is q, by assertions; terms 0 and 1 are these variables. */
    static BitSolver pair(int widthOfP, int p, int widthOfQ, int q) {
        BitSolver x = new BitSolver();
        x.variable(widthOfP);
        x.variable(widthOfQ);
        x.term(1, 0, 0, 0);
        x.term(1, 1, 0, 0);
        x.term(0, p, widthOfP, 0);
        x.term(0, q, widthOfQ, 0);
        x.formula(0, 0, 2);
        x.formula(0, 1, 3);
        x.assertion(0);
        x.assertion(1);
        return x;
    }

    /**
     * The last of three variables, of 4 bits, is term 0; term n + 1 is the number n, and formula n
     * says that the variable is n, for 0 .. 15. Term 17 is 2 bits of it.
     */
    static BitSolver values() {
        BitSolver x = new BitSolver();
        x.variable(4);
        x.variable(2);
        x.variable(4);
        x.term(1, 2, 0, 0);
        for (int n = 0; n < 16; n++) {
            x.term(0, n, 4, 0);
            x.formula(0, 0, n + 1);
        }
        x.term(14, 0, 1, 2);
        return x;
    }

    /** Variables of 4, 4 and 2 bits, and a term for each. */
    static BitSolver three() {
        BitSolver x = new BitSolver();
        x.variable(4);
        x.variable(4);
        x.variable(2);
        x.term(1, 0, 0, 0);
        x.term(1, 1, 0, 0);
        x.term(1, 2, 0, 0);
        return x;
    }
}
