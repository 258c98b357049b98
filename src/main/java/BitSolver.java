import java.util.NoSuchElementException;

/**
 * A solver for formulas over bit vectors.
 *
 * There are never more than 10 bits of variables, so every formula is kept as the set of all
 * assignments in which it holds, and every term as one such set for each of its bits: the set of
 * the assignments in which that bit is 1. All questions then are questions about sets.
 */
public final class BitSolver {
    private static final int MOST_VARIABLES = 6;
    private static final int MOST_WIDTH = 4;
    private static final int MOST_BITS = 10;
    private static final int MOST_TERMS = 50;
    private static final int MOST_FORMULAS = 50;
    private static final int MOST_ASSERTED = 30;
    private static final int MOST_LEVELS = 5;
    private static final int MOST_ASSUMPTIONS = 8;
    private static final int MOST_WAY = 4;

    private static final int NUMBER = 0;
    private static final int VARIABLE = 1;
    private static final int SUM = 2;
    private static final int DIFFERENCE = 3;
    private static final int PRODUCT = 4;
    private static final int BITS_AND = 5;
    private static final int BITS_OR = 6;
    private static final int BITS_EXCLUSIVE = 7;
    private static final int BITS_TURNED = 8;
    private static final int MOVED_UP = 9;
    private static final int MOVED_DOWN = 10;
    private static final int MOVED_DOWN_SIGNED = 11;
    private static final int CHOICE = 12;
    private static final int JOINED = 13;
    private static final int PART = 14;

    private static final int EQUAL = 0;
    private static final int LESS = 1;
    private static final int AT_MOST = 2;
    private static final int LESS_SIGNED = 3;
    private static final int AT_MOST_SIGNED = 4;
    private static final int BIT = 5;
    private static final int NOT = 6;
    private static final int AND = 7;
    private static final int OR = 8;
    private static final int JUST_ONE = 9;
    private static final int IMPLIES = 10;

    // The rows of the sets: first one for each formula, at its own number, then those below.
    private static final int TERM_ROWS = MOST_FORMULAS;
    private static final int LEVEL_ROWS = TERM_ROWS + MOST_TERMS * MOST_WIDTH;
    private static final int WORK_ROW = LEVEL_ROWS + MOST_LEVELS + 1;
    private static final int CARRY_ROW = WORK_ROW + 1;
    private static final int HALF_ROW = CARRY_ROW + 1;
    private static final int BOTH_ROW = HALF_ROW + 1;
    private static final int ROWS = BOTH_ROW + 1;

    private final Sets sets;
    private final Circuits circuits;

    private final int[] variableWidths;
    private final int[] variablePlaces;
    private int variableCount;
    private int bitCount;

    private final int[] termWidths;
    private int termCount;
    private int formulaCount;

    private final int[] assertedBefore;
    private int assertedCount;
    private int level;

    private final int[] assumptions;
    private int assumptionCount;

    public BitSolver() {
        circuits = new Circuits();
        sets = circuits.sets;
        variableWidths = new int[MOST_VARIABLES];
        variablePlaces = new int[MOST_VARIABLES];
        termWidths = new int[MOST_TERMS];
        assertedBefore = new int[MOST_LEVELS + 1];
        assumptions = new int[MOST_ASSUMPTIONS];
        sets.fill(LEVEL_ROWS, 1, true);
    }

    public int variable(int width) throws IllegalArgumentException, IllegalStateException {
        if (!isWidth(width)) {
            throw new IllegalArgumentException();
        }
        if (variableCount >= MOST_VARIABLES || bitCount + width > MOST_BITS) {
            throw new IllegalStateException();
        }
        bitCount += width;
        variableWidths[variableCount] = width;
        // Filling from the highest place down makes the least model the least assignment, and
        // leaves what was built before untouched: it does not depend on the places still free.
        variablePlaces[variableCount] = MOST_BITS - bitCount;
        variableCount++;
        return variableCount - 1;
    }

    public int term(int kind, int a, int b, int c)
            throws IllegalArgumentException, IllegalStateException {
        int width = widthToBuild(kind, a, b, c);
        if (width == 0) {
            throw new IllegalArgumentException();
        }
        if (termCount >= MOST_TERMS) {
            throw new IllegalStateException();
        }
        termWidths[termCount] = width;
        if (kind <= PRODUCT) {
            buildNumeric(kind, a, b);
        } else if (kind <= BITS_TURNED) {
            buildBitwise(kind, a, b);
        } else {
            buildArranged(kind, a, b, c);
        }
        termCount++;
        return termCount - 1;
    }

    public int formula(int kind, int a, int b)
            throws IllegalArgumentException, IllegalStateException {
        if (!canBuildFormula(kind, a, b)) {
            throw new IllegalArgumentException();
        }
        if (formulaCount >= MOST_FORMULAS) {
            throw new IllegalStateException();
        }
        if (kind <= BIT) {
            buildRelation(kind, a, b);
        } else {
            buildConnective(kind, a, b);
        }
        formulaCount++;
        return formulaCount - 1;
    }

    public int assertion(int formula) throws NoSuchElementException, IllegalStateException {
        if (!hasFormula(formula)) {
            throw new NoSuchElementException();
        }
        if (assertedCount >= MOST_ASSERTED) {
            throw new IllegalStateException();
        }
        sets.and(modelRow(), modelRow(), formula, 1);
        assertedCount++;
        return assertedCount;
    }

    public int push() throws IllegalStateException {
        if (level >= MOST_LEVELS) {
            throw new IllegalStateException();
        }
        sets.copy(modelRow() + 1, modelRow(), 1);
        level++;
        assertedBefore[level] = assertedCount;
        return level;
    }

    public int pop() throws IllegalStateException {
        if (level == 0) {
            throw new IllegalStateException();
        }
        int gone = assertedCount - assertedBefore[level];
        assertedCount = assertedBefore[level];
        level--;
        return gone;
    }

    public int check() {
        return hasModel() ? 1 : 0;
    }

    public int value(int variable) throws NoSuchElementException, UnsupportedOperationException {
        if (!hasVariable(variable)) {
            throw new NoSuchElementException();
        }
        if (!hasModel()) {
            throw new UnsupportedOperationException();
        }
        int values = (1 << variableWidths[variable]) - 1;
        return (sets.lowest(modelRow()) >> variablePlaces[variable]) & values;
    }

    public int valueOf(int term) throws NoSuchElementException, UnsupportedOperationException {
        if (!hasTerm(term)) {
            throw new NoSuchElementException();
        }
        if (!hasModel()) {
            throw new UnsupportedOperationException();
        }
        int model = sets.lowest(modelRow());
        int result = 0;
        for (int k = 0; k < termWidths[term]; k++) {
            if (sets.contains(termRow(term) + k, model)) {
                result |= 1 << k;
            }
        }
        return result;
    }

    public int entailed(int formula) throws NoSuchElementException, UnsupportedOperationException {
        if (!hasFormula(formula)) {
            throw new NoSuchElementException();
        }
        if (!hasModel()) {
            throw new UnsupportedOperationException();
        }
        if (sets.isWithin(modelRow(), formula)) {
            return 1;
        }
        return sets.meets(modelRow(), formula) ? 2 : 0;
    }

    public int fixed(int variable) throws NoSuchElementException, UnsupportedOperationException {
        if (!hasVariable(variable)) {
            throw new NoSuchElementException();
        }
        if (!hasModel()) {
            throw new UnsupportedOperationException();
        }
        int result = 0;
        for (int k = 0; k < variableWidths[variable]; k++) {
            sets.fillByPlace(WORK_ROW, variablePlaces[variable] + k);
            if (sets.isWithin(modelRow(), WORK_ROW) || !sets.meets(modelRow(), WORK_ROW)) {
                result |= 1 << k;
            }
        }
        return result;
    }

    public int least(int term) throws NoSuchElementException, UnsupportedOperationException {
        if (!hasTerm(term)) {
            throw new NoSuchElementException();
        }
        if (!hasModel()) {
            throw new UnsupportedOperationException();
        }
        sets.copy(WORK_ROW, modelRow(), 1);
        int result = 0;
        for (int k = termWidths[term] - 1; k >= 0; k--) {
            // A higher bit outweighs all lower ones, so models with it 0 are kept if there are any.
            if (sets.isWithin(WORK_ROW, termRow(term) + k)) {
                result |= 1 << k;
            } else {
                sets.remove(WORK_ROW, termRow(term) + k);
            }
        }
        return result;
    }

    public int assume(int formula) throws NoSuchElementException, IllegalStateException {
        if (!hasFormula(formula)) {
            throw new NoSuchElementException();
        }
        if (assumptionCount >= MOST_ASSUMPTIONS) {
            throw new IllegalStateException();
        }
        assumptions[assumptionCount] = formula;
        assumptionCount++;
        return assumptionCount;
    }

    public int clear() {
        int gone = assumptionCount;
        assumptionCount = 0;
        return gone;
    }

    public int attempt() {
        return canAssume(allAssumptions()) ? 1 : 0;
    }

    public int blame() throws IllegalStateException {
        int left = allAssumptions();
        if (canAssume(left)) {
            throw new IllegalStateException();
        }
        for (int k = 0; k < assumptionCount; k++) {
            int others = left & ~(1 << k);
            if (!canAssume(others)) {
                left = others;
            }
        }
        return left;
    }

    public int count(int what) throws IllegalArgumentException {
        switch (what) {
            case 0: return variableCount;
            case 1: return termCount;
            case 2: return formulaCount;
            case 3: return assertedCount;
            case 4: return level;
            case 5: return assumptionCount;
            case 6: return bitCount;
            default: throw new IllegalArgumentException();
        }
    }

    private static boolean isWidth(int width) {
        return width >= 1 && width <= MOST_WIDTH;
    }

    private boolean hasVariable(int number) {
        return number >= 0 && number < variableCount;
    }

    private boolean hasTerm(int number) {
        return number >= 0 && number < termCount;
    }

    private boolean hasFormula(int number) {
        return number >= 0 && number < formulaCount;
    }

    private boolean hasModel() {
        return !sets.isEmpty(modelRow());
    }

    /** The row of all models; every level has its own, so that closing one brings the last back. */
    private int modelRow() {
        return LEVEL_ROWS + level;
    }

    private static int termRow(int number) {
        return TERM_ROWS + number * MOST_WIDTH;
    }

    private int allAssumptions() {
        return (1 << assumptionCount) - 1;
    }

    private boolean canAssume(int places) {
        sets.copy(WORK_ROW, modelRow(), 1);
        for (int k = 0; k < assumptionCount; k++) {
            if (((places >> k) & 1) == 1) {
                sets.and(WORK_ROW, WORK_ROW, assumptions[k], 1);
            }
        }
        return !sets.isEmpty(WORK_ROW);
    }

    /** The width that a term would have, or 0 if the arguments do not fit. */
    private int widthToBuild(int kind, int a, int b, int c) {
        switch (kind) {
            case NUMBER:
                return isWidth(b) && a >= 0 && a < (1 << b) ? b : 0;
            case VARIABLE:
                return hasVariable(a) ? variableWidths[a] : 0;
            case SUM:
            case DIFFERENCE:
            case PRODUCT:
            case BITS_AND:
            case BITS_OR:
            case BITS_EXCLUSIVE:
                return commonWidth(a, b);
            case BITS_TURNED:
                return widthOrNone(a);
            case MOVED_UP:
            case MOVED_DOWN:
            case MOVED_DOWN_SIGNED:
                return b >= 0 && b <= MOST_WAY ? widthOrNone(a) : 0;
            case CHOICE:
                return hasFormula(a) ? commonWidth(b, c) : 0;
            case JOINED:
                return joinedWidth(a, b);
            case PART:
                return b >= 0 && b <= c && c < widthOrNone(a) ? c - b + 1 : 0;
            default:
                return 0;
        }
    }

    private int widthOrNone(int term) {
        return hasTerm(term) ? termWidths[term] : 0;
    }

    private int commonWidth(int a, int b) {
        return widthOrNone(a) == widthOrNone(b) ? widthOrNone(a) : 0;
    }

    private int joinedWidth(int a, int b) {
        if (!hasTerm(a) || !hasTerm(b)) {
            return 0;
        }
        int width = termWidths[a] + termWidths[b];
        return isWidth(width) ? width : 0;
    }

    private void buildNumeric(int kind, int a, int b) {
        int to = termRow(termCount);
        int width = termWidths[termCount];
        switch (kind) {
            case NUMBER:
                buildNumber(to, a, width);
                break;
            case VARIABLE:
                buildVariable(to, a);
                break;
            case SUM:
                circuits.sum(to, termRow(a), termRow(b), width);
                break;
            case DIFFERENCE:
                circuits.difference(to, termRow(a), termRow(b), width);
                break;
            default:
                circuits.product(to, termRow(a), termRow(b), width);
        }
    }

    private void buildNumber(int to, int number, int width) {
        for (int k = 0; k < width; k++) {
            sets.fill(to + k, 1, ((number >> k) & 1) == 1);
        }
    }

    private void buildVariable(int to, int variable) {
        for (int k = 0; k < variableWidths[variable]; k++) {
            sets.fillByPlace(to + k, variablePlaces[variable] + k);
        }
    }

    private void buildBitwise(int kind, int a, int b) {
        int to = termRow(termCount);
        int width = termWidths[termCount];
        switch (kind) {
            case BITS_AND:
                sets.and(to, termRow(a), termRow(b), width);
                break;
            case BITS_OR:
                sets.or(to, termRow(a), termRow(b), width);
                break;
            case BITS_EXCLUSIVE:
                sets.exclusive(to, termRow(a), termRow(b), width);
                break;
            default:
                sets.turn(to, termRow(a), width);
        }
    }

    private void buildArranged(int kind, int a, int b, int c) {
        int to = termRow(termCount);
        int width = termWidths[termCount];
        switch (kind) {
            case MOVED_UP:
                circuits.moveUp(to, termRow(a), width, b);
                break;
            case MOVED_DOWN:
                circuits.moveDown(to, termRow(a), width, b, false);
                break;
            case MOVED_DOWN_SIGNED:
                circuits.moveDown(to, termRow(a), width, b, true);
                break;
            case CHOICE:
                circuits.choice(to, a, termRow(b), termRow(c), width);
                break;
            case JOINED:
                sets.copy(to, termRow(a), termWidths[a]);
                sets.copy(to + termWidths[a], termRow(b), termWidths[b]);
                break;
            default:
                sets.copy(to, termRow(a) + b, width);
        }
    }

    private boolean canBuildFormula(int kind, int a, int b) {
        switch (kind) {
            case EQUAL:
            case LESS:
            case AT_MOST:
            case LESS_SIGNED:
            case AT_MOST_SIGNED:
                return commonWidth(a, b) > 0;
            case BIT:
                return b >= 0 && b < widthOrNone(a);
            case NOT:
                return hasFormula(a);
            case AND:
            case OR:
            case JUST_ONE:
            case IMPLIES:
                return hasFormula(a) && hasFormula(b);
            default:
                return false;
        }
    }

    private void buildRelation(int kind, int a, int b) {
        int to = formulaCount;
        int width = termWidths[a];
        switch (kind) {
            case EQUAL:
                circuits.equal(to, termRow(a), termRow(b), width);
                break;
            case LESS:
                circuits.less(to, termRow(a), termRow(b), width, false);
                break;
            case AT_MOST:
                circuits.atMost(to, termRow(a), termRow(b), width, false);
                break;
            case LESS_SIGNED:
                circuits.less(to, termRow(a), termRow(b), width, true);
                break;
            case AT_MOST_SIGNED:
                circuits.atMost(to, termRow(a), termRow(b), width, true);
                break;
            default:
                sets.copy(to, termRow(a) + b, 1);
        }
    }

    private void buildConnective(int kind, int a, int b) {
        int to = formulaCount;
        switch (kind) {
            case NOT:
                sets.turn(to, a, 1);
                break;
            case AND:
                sets.and(to, a, b, 1);
                break;
            case OR:
                sets.or(to, a, b, 1);
                break;
            case JUST_ONE:
                sets.exclusive(to, a, b, 1);
                break;
            default:
                sets.turn(to, a, 1);
                sets.or(to, to, b, 1);
        }
    }

    /** Sets of assignments, one in each row; an operation can do several rows on end at once. */
    private static final class Sets {
        private static final int PLACES_IN_WORD = 6;
        private static final int WORD_BITS = 1 << PLACES_IN_WORD;
        private static final int WORDS = 1 << (MOST_BITS - PLACES_IN_WORD);
        private static final long[] BY_PLACE = {
            0xAAAAAAAAAAAAAAAAL, 0xCCCCCCCCCCCCCCCCL, 0xF0F0F0F0F0F0F0F0L,
            0xFF00FF00FF00FF00L, 0xFFFF0000FFFF0000L, 0xFFFFFFFF00000000L
        };

        private final long[] words;

        Sets(int rows) {
            words = new long[rows * WORDS];
        }

        void fill(int to, int rows, boolean all) {
            for (int i = 0; i < rows * WORDS; i++) {
                words[to * WORDS + i] = all ? -1L : 0L;
            }
        }

        /** Makes a row the set of the assignments whose bit at a place is 1. */
        void fillByPlace(int to, int place) {
            for (int i = 0; i < WORDS; i++) {
                words[to * WORDS + i] = wordByPlace(i, place);
            }
        }

        private static long wordByPlace(int word, int place) {
            if (place < PLACES_IN_WORD) {
                return BY_PLACE[place];
            }
            return ((word >> (place - PLACES_IN_WORD)) & 1) == 1 ? -1L : 0L;
        }

        void copy(int to, int a, int rows) {
            for (int i = 0; i < rows * WORDS; i++) {
                words[to * WORDS + i] = words[a * WORDS + i];
            }
        }

        void turn(int to, int a, int rows) {
            for (int i = 0; i < rows * WORDS; i++) {
                words[to * WORDS + i] = ~words[a * WORDS + i];
            }
        }

        void and(int to, int a, int b, int rows) {
            for (int i = 0; i < rows * WORDS; i++) {
                words[to * WORDS + i] = words[a * WORDS + i] & words[b * WORDS + i];
            }
        }

        void or(int to, int a, int b, int rows) {
            for (int i = 0; i < rows * WORDS; i++) {
                words[to * WORDS + i] = words[a * WORDS + i] | words[b * WORDS + i];
            }
        }

        void exclusive(int to, int a, int b, int rows) {
            for (int i = 0; i < rows * WORDS; i++) {
                words[to * WORDS + i] = words[a * WORDS + i] ^ words[b * WORDS + i];
            }
        }

        /** Makes a row that agrees with yes inside the condition and with no outside of it. */
        void choose(int to, int condition, int yes, int no) {
            for (int i = 0; i < WORDS; i++) {
                long inside = words[condition * WORDS + i];
                words[to * WORDS + i] =
                        (inside & words[yes * WORDS + i]) | (~inside & words[no * WORDS + i]);
            }
        }

        void remove(int from, int a) {
            for (int i = 0; i < WORDS; i++) {
                words[from * WORDS + i] = words[from * WORDS + i] & ~words[a * WORDS + i];
            }
        }

        boolean isEmpty(int row) {
            return isWithout(row, row);
        }

        boolean meets(int a, int b) {
            return !isWithout(a, b);
        }

        private boolean isWithout(int a, int b) {
            for (int i = 0; i < WORDS; i++) {
                if ((words[a * WORDS + i] & words[b * WORDS + i]) != 0L) {
                    return false;
                }
            }
            return true;
        }

        boolean isWithin(int a, int b) {
            for (int i = 0; i < WORDS; i++) {
                if ((words[a * WORDS + i] & ~words[b * WORDS + i]) != 0L) {
                    return false;
                }
            }
            return true;
        }

        boolean contains(int row, int assignment) {
            long word = words[row * WORDS + assignment / WORD_BITS];
            return ((word >>> (assignment % WORD_BITS)) & 1L) == 1L;
        }

        /** The lowest assignment in a row, 0 for an empty one. */
        int lowest(int row) {
            for (int i = 0; i < WORDS; i++) {
                long word = words[row * WORDS + i];
                if (word != 0L) {
                    return i * WORD_BITS + lowestOne(word);
                }
            }
            return 0;
        }

        private static int lowestOne(long word) {
            int place = 0;
            while (place < WORD_BITS - 1 && ((word >>> place) & 1L) == 0L) {
                place++;
            }
            return place;
        }
    }

    /** What works on whole terms, bit by bit, each for all assignments at once. */
    private static final class Circuits {
        private final Sets sets;

        Circuits() {
            sets = new Sets(ROWS);
        }

        void sum(int to, int a, int b, int width) {
            sets.fill(CARRY_ROW, 1, false);
            for (int k = 0; k < width; k++) {
                addBit(to + k, a + k, b + k);
            }
        }

        void difference(int to, int a, int b, int width) {
            // Taking b away is adding b with all bits turned, and 1.
            sets.fill(CARRY_ROW, 1, true);
            for (int k = 0; k < width; k++) {
                sets.turn(WORK_ROW, b + k, 1);
                addBit(to + k, a + k, WORK_ROW);
            }
        }

        void product(int to, int a, int b, int width) {
            sets.fill(to, width, false);
            for (int shift = 0; shift < width; shift++) {
                sets.fill(CARRY_ROW, 1, false);
                for (int k = shift; k < width; k++) {
                    sets.and(WORK_ROW, a + k - shift, b + shift, 1);
                    addBit(to + k, to + k, WORK_ROW);
                }
            }
        }

        private void addBit(int to, int a, int b) {
            sets.exclusive(HALF_ROW, a, b, 1);
            sets.and(BOTH_ROW, a, b, 1);
            sets.exclusive(to, HALF_ROW, CARRY_ROW, 1);
            sets.and(CARRY_ROW, CARRY_ROW, HALF_ROW, 1);
            sets.or(CARRY_ROW, CARRY_ROW, BOTH_ROW, 1);
        }

        void moveUp(int to, int a, int width, int way) {
            for (int k = 0; k < width; k++) {
                if (k < way) {
                    sets.fill(to + k, 1, false);
                } else {
                    sets.copy(to + k, a + k - way, 1);
                }
            }
        }

        void moveDown(int to, int a, int width, int way, boolean signed) {
            for (int k = 0; k < width; k++) {
                if (k + way < width) {
                    sets.copy(to + k, a + k + way, 1);
                } else if (signed) {
                    sets.copy(to + k, a + width - 1, 1);
                } else {
                    sets.fill(to + k, 1, false);
                }
            }
        }

        void choice(int to, int condition, int yes, int no, int width) {
            for (int k = 0; k < width; k++) {
                sets.choose(to + k, condition, yes + k, no + k);
            }
        }

        void equal(int to, int a, int b, int width) {
            sets.fill(to, 1, true);
            for (int k = 0; k < width; k++) {
                sets.exclusive(WORK_ROW, a + k, b + k, 1);
                sets.remove(to, WORK_ROW);
            }
        }

        void less(int to, int a, int b, int width, boolean signed) {
            sets.fill(to, 1, false);
            for (int k = 0; k < width; k++) {
                sets.exclusive(WORK_ROW, a + k, b + k, 1);
                // Where they differ, the one with the 0 is less; but a sign makes it the greater.
                boolean isSign = signed && k == width - 1;
                sets.choose(to, WORK_ROW, isSign ? a + k : b + k, to);
            }
        }

        void atMost(int to, int a, int b, int width, boolean signed) {
            less(to, b, a, width, signed);
            sets.turn(to, to, 1);
        }
    }
}
