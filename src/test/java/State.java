/** The states in which the tests ask for what is to be refused. */
enum State {
    NEW {
        @Override
        BitSolver make() {
            return new BitSolver();
        }
    },
    /** Something of all is there, and room for more of all; all assumptions can hold. */
    USED {
        @Override
        BitSolver make() {
            return used();
        }
    },
    /** As USED, but the assumptions cannot hold together. */
    CROSSED {
        @Override
        BitSolver make() {
            BitSolver x = used();
            x.assume(3);
            return x;
        }
    },
    /** As USED, but the assertions have no model. */
    HOPELESS {
        @Override
        BitSolver make() {
            BitSolver x = used();
            x.assertion(2);
            x.assertion(3);
            return x;
        }
    },
    /** As much of all as there may be; all assumptions can hold. */
    FULL {
        @Override
        BitSolver make() {
            BitSolver x = used();
            fill(x);
            return x;
        }
    };

    private static final int[][] TERMS = {
        {9, 4, 0}, {0, 0, 0}, {3, 3, 0}, {3, 3, 0}, {3, 3, 0}, {3, 3, 0}, {3, 3, 0}, {3, 3, 0},
        {3, 0, 0}, {3, 2, 0}, {3, 2, 0}, {3, 2, 0}, {0, 3, 3}, {0, 2, 0}, {3, 1, 3}
    };
    private static final int[][] FORMULAS = {
        {3, 3}, {3, 3}, {3, 3}, {3, 3}, {3, 3}, {3, 3}, {0, 0}, {0, 1}, {0, 1}, {0, 1}, {0, 1}
    };

    /** In all states but NEW term n, for 0 .. 3, is n + 1 bits wide. */
    abstract BitSolver make();

    /** What a term of a kind can be made of in all states but NEW. */
    static int[] termArguments(int kind) {
        return TERMS[kind].clone();
    }

    /** What a formula of a kind can be made of in all states but NEW. */
    static int[] formulaArguments(int kind) {
        return FORMULAS[kind].clone();
    }

    private static BitSolver used() {
        BitSolver x = new BitSolver();
        for (int width = 1; width <= 3; width++) {
            x.variable(width);
            x.term(1, width - 1, 0, 0);
        }
        x.term(13, 0, 2, 0);
        x.term(0, 5, 3, 0);
        x.term(2, 2, 4, 0);
        x.term(0, 2, 2, 0);
        x.formula(1, 2, 4);
        x.formula(0, 1, 6);
        x.formula(5, 0, 0);
        x.formula(6, 2, 0);
        x.formula(8, 1, 2);
        x.formula(3, 5, 2);
        x.term(12, 2, 4, 5);
        x.assertion(4);
        x.push();
        x.assertion(0);
        x.assertion(5);
        x.push();
        x.push();
        x.assertion(4);
        x.assume(2);
        x.assume(0);
        return x;
    }

    private static void fill(BitSolver x) {
        x.variable(1);
        x.variable(1);
        x.variable(2);
        for (int n = x.count(1); n < 49; n++) {
            int[] with = TERMS[n % TERMS.length];
            x.term(n % TERMS.length, with[0], with[1], with[2]);
        }
        x.term(0, 10, 4, 0);
        for (int n = x.count(2); n < 50; n++) {
            int[] with = FORMULAS[n % FORMULAS.length];
            x.formula(n % FORMULAS.length, with[0], with[1]);
        }
        x.push();
        x.assertion(2);
        x.push();
        x.assertion(1);
        for (int n = x.count(3); n < 30; n++) {
            x.assertion(n % 2 == 0 ? 0 : 4);
        }
        for (int n = x.count(5); n < 8; n++) {
            x.assume(n % 2 == 0 ? 5 : 4);
        }
    }
}
