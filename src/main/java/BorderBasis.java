import java.util.Arrays;

/**
 * Border bases of polynomial systems in two variables over a prime field.
 *
 * <p>All rows and tables are made once and used again: a call makes no object but an exception, the
 * eight states that undo() brings back, the two of restore() and the tables of the trace form, each
 * of these at its first use.
 */
public final class BorderBasis {
    public static final int NONE = -1;

    private static final int FIRST_PRIME = 31;
    private static final int LEAST_PRIME = 13;
    private static final int GREATEST_PRIME = 97;
    /** The most monomials of an order ideal, and the most points. */
    private static final int MOST = 12;
    /** A column and a row of the order ideal have at most MOST + 1 monomials together: so many has its border. */
    private static final int MOST_BORDER = MOST + 1;
    /** The greatest exponent in an order ideal; in the border it is one more. */
    private static final int TOP = MOST - 1;
    /** The monomials of the degrees 0 to MOST: all that an order ideal or a border can hold. */
    private static final int ALL_MONOMIALS = (MOST + 1) * (MOST + 2) / 2;
    private static final int BORDER_BASE = 100;
    private static final int POWER_LIMIT = 22;
    private static final int TERM_LIMIT = 20;
    private static final int TERM_SPAN = TERM_LIMIT + 1;
    private static final int COEFFICIENT_LIMIT = 999;
    private static final int TEXT_LIMIT = 900;
    private static final int UNDO_LIMIT = 8;
    private static final int SLOTS = 2;

    private static final int JOIN = 0;
    private static final int LEAVE = 1;
    private static final int SET_RULE = 2;
    private static final int ADD_POINT = 3;
    private static final int REMOVE_POINT = 4;
    private static final int FIT = 5;
    private static final int KINDS = 6;

    private static final int NOT_ALLOWED = 1;
    private static final int OUT_OF_RANGE = 2;
    private static final int TOO_MANY = 3;
    private static final int WRONG_MONOMIAL = 4;
    private static final int REPEATED = 5;

    private final State state = new State();
    private final State spare = new State();
    private final State fitted = new State();
    private final State[] saved = new State[SLOTS];
    private final History history = new History();
    private final int[] changeCounts = new int[KINDS];
    private final Spot spot = new Spot();
    private final Tables tables = new Tables(state);
    private final Zeros zeros = new Zeros(state, tables, spot);
    private final Fitter fitter = new Fitter(spot);
    private final Text text = new Text();
    private final Parser parser = new Parser(text, spare);
    private final int[] result = new int[MOST];
    private final int[] column = new int[MOST];

    public BorderBasis() {
    }

    public int appendText(int fourBytes) throws IllegalStateException {
        if (text.length > TEXT_LIMIT - 4) {
            throw new IllegalStateException();
        }
        for (int shift = 24; shift >= 0; shift -= 8) {
            text.append((byte) (fourBytes >> shift));
        }
        return text.length;
    }

    public int truncateText(int length) throws IllegalArgumentException {
        if (length < 0 || length > text.length) {
            throw new IllegalArgumentException();
        }
        text.length = length;
        return length;
    }

    public int load() {
        boolean right = parser.readSetup();
        text.length = 0;
        if (!right) {
            return NONE;
        }
        state.copyFrom(parser.setup);
        history.depth = 0;
        Arrays.fill(changeCounts, 0);
        forgetDerived();
        return state.size;
    }

    public int reduce() {
        boolean right = parser.readPolynomial(state.prime);
        text.length = 0;
        if (!right) {
            return NONE;
        }
        tables.normalFormOf(parser.polynomial, result);
        int others = 0;
        for (int row = 0; row < MOST; row++) {
            if (result[row] != 0) {
                others++;
            }
        }
        return others;
    }

    public int errorCode() {
        return parser.wrongCode;
    }

    public int errorPosition() {
        return parser.wrongPosition;
    }

    public int result(int index) throws IndexOutOfBoundsException {
        if (index < 0 || index >= MOST) {
            throw new IndexOutOfBoundsException();
        }
        return result[index];
    }

    public int count(int what) throws IllegalArgumentException {
        switch (what) {
            case 0:
                return state.prime;
            case 1:
                return state.size;
            case 2:
                return state.borderSize;
            case 3:
                return state.coefficientsNotZero();
            case 4:
                return state.pointCount;
            case 5:
                return history.depth;
            case 6:
                return state.candidates();
            case 7:
                return state.corners();
            default:
                throw new IllegalArgumentException();
        }
    }

    public int changes(int kind) throws IllegalArgumentException {
        if (kind < 0 || kind >= KINDS) {
            throw new IllegalArgumentException();
        }
        return changeCounts[kind];
    }

    public int refusal(int i, int j) throws IllegalArgumentException {
        if (isOutside(i, TOP) || isOutside(j, TOP)) {
            throw new IllegalArgumentException();
        }
        return state.obstacle(i, j);
    }

    public int join(int i, int j) throws IllegalArgumentException, IllegalStateException {
        if (isOutside(i, TOP) || isOutside(j, TOP)) {
            throw new IllegalArgumentException();
        }
        if (state.obstacle(i, j) != 0) {
            throw new IllegalStateException();
        }
        beginChange(JOIN);
        state.changeHeight(i, 1, spare);
        return state.numberOf(i, j);
    }

    public int leave(int i, int j) throws IllegalArgumentException, IllegalStateException {
        if (isOutside(i, TOP) || isOutside(j, TOP)) {
            throw new IllegalArgumentException();
        }
        if (!state.isCorner(i, j)) {
            throw new IllegalStateException();
        }
        int number = state.numberOf(i, j);
        beginChange(LEAVE);
        state.changeHeight(i, -1, spare);
        return number;
    }

    public int monomial(int index, int what) throws IndexOutOfBoundsException, IllegalArgumentException {
        if (index < 0 || index >= state.size) {
            throw new IndexOutOfBoundsException();
        }
        if (isOutside(what, 1)) {
            throw new IllegalArgumentException();
        }
        return what == 0 ? state.monomialI[index] : state.monomialJ[index];
    }

    public int border(int index, int what) throws IndexOutOfBoundsException, IllegalArgumentException {
        if (index < 0 || index >= state.borderSize) {
            throw new IndexOutOfBoundsException();
        }
        if (isOutside(what, 1)) {
            throw new IllegalArgumentException();
        }
        return what == 0 ? state.borderI[index] : state.borderJ[index];
    }

    public int place(int i, int j) {
        int number = state.numberOf(i, j);
        if (number != NONE) {
            return number;
        }
        int borderNumber = state.borderNumberOf(i, j);
        return borderNumber == NONE ? NONE : BORDER_BASE + borderNumber;
    }

    public int setRule(int border, int monomial, int value)
            throws IndexOutOfBoundsException, IllegalArgumentException {
        if (!state.hasCoefficient(border, monomial)) {
            throw new IndexOutOfBoundsException();
        }
        if (isOutside(value, state.prime - 1)) {
            throw new IllegalArgumentException();
        }
        int previous = state.coefficient(border, monomial);
        beginChange(SET_RULE);
        state.setCoefficient(border, monomial, value);
        return previous;
    }

    public int rule(int border, int monomial) throws IndexOutOfBoundsException {
        if (!state.hasCoefficient(border, monomial)) {
            throw new IndexOutOfBoundsException();
        }
        return state.coefficient(border, monomial);
    }

    public int value(int border, int a, int b) throws IndexOutOfBoundsException, IllegalArgumentException {
        if (border < 0 || border >= state.borderSize) {
            throw new IndexOutOfBoundsException();
        }
        if (isOutside(a, state.prime - 1) || isOutside(b, state.prime - 1)) {
            throw new IllegalArgumentException();
        }
        spot.moveTo(a, b, state.prime);
        return spot.valueOfRule(state, border);
    }

    public int table(int variable, int row, int column)
            throws IndexOutOfBoundsException, IllegalArgumentException {
        if (isOutside(row, state.size - 1) || isOutside(column, state.size - 1)) {
            throw new IndexOutOfBoundsException();
        }
        if (isOutside(variable, 1)) {
            throw new IllegalArgumentException();
        }
        return tables.cell(variable, row, column);
    }

    public boolean commutes() {
        return tables.differences() == 0;
    }

    public int clash(int what) throws IllegalArgumentException {
        if (isOutside(what, 4)) {
            throw new IllegalArgumentException();
        }
        int differences = tables.differences();
        if (what == 4) {
            return differences;
        }
        return differences == 0 ? NONE : tables.firstDifference(what);
    }

    public int trace(int i, int j) throws IllegalArgumentException {
        if (isOutside(i, POWER_LIMIT) || isOutside(j, POWER_LIMIT)) {
            throw new IllegalArgumentException();
        }
        return tables.traceOfPowers(i, j);
    }

    public int normal(int i, int j, int index) throws IndexOutOfBoundsException, IllegalArgumentException {
        if (index < 0 || index >= state.size) {
            throw new IndexOutOfBoundsException();
        }
        if (isOutside(i, POWER_LIMIT) || isOutside(j, POWER_LIMIT)) {
            throw new IllegalArgumentException();
        }
        tables.prepare();
        tables.normalFormOfMonomial(i, j, column);
        return column[index];
    }

    public int determinant(int variable) throws IllegalArgumentException {
        if (isOutside(variable, 1)) {
            throw new IllegalArgumentException();
        }
        return tables.determinantOf(variable);
    }

    public int kernel(int variable, int value) throws IllegalArgumentException {
        if (isOutside(variable, 1) || isOutside(value, state.prime - 1)) {
            throw new IllegalArgumentException();
        }
        return tables.nullityOf(variable, value);
    }

    public int zeros(int what) throws IllegalArgumentException {
        if (isOutside(what, 2)) {
            throw new IllegalArgumentException();
        }
        if (what == 0) {
            return zeros.number();
        }
        if (tables.differences() != 0) {
            return NONE;
        }
        return what == 1 ? zeros.distinctEverywhere() : zeros.allMultiplicities();
    }

    public int zero(int index, int what) throws IndexOutOfBoundsException, IllegalArgumentException {
        if (index < 0 || index >= zeros.number()) {
            throw new IndexOutOfBoundsException();
        }
        if (isOutside(what, 2)) {
            throw new IllegalArgumentException();
        }
        if (what == 2) {
            return tables.differences() == 0 ? zeros.multiplicityOf(index) : NONE;
        }
        return what == 0 ? zeros.zeroA[index] : zeros.zeroB[index];
    }

    public int multiplicity(int a, int b) throws IllegalArgumentException {
        if (isOutside(a, state.prime - 1) || isOutside(b, state.prime - 1)) {
            throw new IllegalArgumentException();
        }
        if (tables.differences() != 0) {
            return NONE;
        }
        int index = zeros.indexOf(a, b);
        return index == NONE ? 0 : zeros.multiplicityOf(index);
    }

    public double share() {
        if (tables.differences() != 0 || state.size < 1) {
            return -1.0;
        }
        return (double) zeros.allMultiplicities() / (double) state.size;
    }

    public int addPoint(int a, int b) throws IllegalArgumentException, IllegalStateException {
        if (isOutside(a, state.prime - 1) || isOutside(b, state.prime - 1)) {
            throw new IllegalArgumentException();
        }
        if (state.pointCount >= MOST || state.hasPoint(a, b)) {
            throw new IllegalStateException();
        }
        beginChange(ADD_POINT);
        state.appendPoint(a, b);
        return state.pointCount - 1;
    }

    public int removePoint(int index) throws IndexOutOfBoundsException {
        if (index < 0 || index >= state.pointCount) {
            throw new IndexOutOfBoundsException();
        }
        beginChange(REMOVE_POINT);
        state.deletePoint(index);
        return state.pointCount;
    }

    public int point(int index, int what) throws IndexOutOfBoundsException, IllegalArgumentException {
        if (index < 0 || index >= state.pointCount) {
            throw new IndexOutOfBoundsException();
        }
        if (isOutside(what, 2)) {
            throw new IllegalArgumentException();
        }
        int a = state.pointA[index];
        int b = state.pointB[index];
        if (what == 2) {
            spot.moveTo(a, b, state.prime);
            return spot.isZeroOf(state) ? 1 : 0;
        }
        return what == 0 ? a : b;
    }

    public int fit() throws IllegalStateException {
        if (state.pointCount == 0) {
            throw new IllegalStateException();
        }
        beginChange(FIT);
        fitter.fitPoints(state, fitted);
        state.copyFrom(fitted);
        return state.size;
    }

    public int misfits() {
        if (state.pointCount == 0) {
            return NONE;
        }
        fitter.fitPoints(state, fitted);
        return state.hasSameIdeal(fitted) ? state.otherRules(fitted) : NONE;
    }

    public int undo() {
        if (history.depth == 0) {
            return NONE;
        }
        history.bringBack(state);
        forgetDerived();
        return history.depth;
    }

    public void save(int slot) throws IllegalArgumentException {
        if (slot < 0 || slot >= SLOTS) {
            throw new IllegalArgumentException();
        }
        if (saved[slot] == null) {
            saved[slot] = new State();
        }
        saved[slot].copyFrom(state);
    }

    public void restore(int slot) throws IllegalArgumentException, IllegalStateException {
        if (slot < 0 || slot >= SLOTS) {
            throw new IllegalArgumentException();
        }
        if (saved[slot] == null) {
            throw new IllegalStateException();
        }
        state.copyFrom(saved[slot]);
        history.depth = 0;
        forgetDerived();
    }

    /** To be called when nothing can be refused any more: what throws must change nothing. */
    private void beginChange(int kind) {
        history.remember(state);
        changeCounts[kind]++;
        forgetDerived();
    }

    private void forgetDerived() {
        tables.known = false;
        zeros.forget();
    }

    private static boolean isOutside(int number, int greatest) {
        return number < 0 || number > greatest;
    }

    private static int residue(int number, int prime) {
        if (prime <= 0) {
            return 0;
        }
        int rest = number % prime;
        return rest < 0 ? rest + prime : rest;
    }

    /** By Fermat: the power prime - 2. */
    private static int inverse(int number, int prime) {
        int power = 1;
        int square = number;
        for (int rest = prime - 2; rest > 0; rest >>= 1) {
            if ((rest & 1) == 1) {
                power = residue(power * square, prime);
            }
            square = residue(square * square, prime);
        }
        return power;
    }

    private static boolean isPrimeAllowed(int number) {
        if (number < LEAST_PRIME || number > GREATEST_PRIME) {
            return false;
        }
        for (int divisor = 2; divisor < LEAST_PRIME; divisor++) {
            if (number % divisor == 0) {
                return false;
            }
        }
        return true;
    }

    /** What is loaded, saved and undone: the prime, the order ideal, the rules and the points. */
    private static final class State {
        int prime;
        /** How many monomials (i, 0), (i, 1), .. are in the order ideal: the divisors make this tell all of it. */
        final int[] heights = new int[MOST + 1];
        int size;
        final int[] monomialI = new int[MOST];
        final int[] monomialJ = new int[MOST];
        int borderSize;
        final int[] borderI = new int[MOST_BORDER];
        final int[] borderJ = new int[MOST_BORDER];
        final int[] rules = new int[MOST_BORDER * MOST];
        int pointCount;
        final int[] pointA = new int[MOST];
        final int[] pointB = new int[MOST];

        State() {
            reset();
        }

        void reset() {
            prime = FIRST_PRIME;
            Arrays.fill(heights, 0);
            heights[0] = 1;
            Arrays.fill(rules, 0);
            pointCount = 0;
            listMonomials();
        }

        void copyFrom(State other) {
            prime = other.prime;
            size = other.size;
            borderSize = other.borderSize;
            pointCount = other.pointCount;
            System.arraycopy(other.heights, 0, heights, 0, MOST + 1);
            System.arraycopy(other.monomialI, 0, monomialI, 0, MOST);
            System.arraycopy(other.monomialJ, 0, monomialJ, 0, MOST);
            System.arraycopy(other.borderI, 0, borderI, 0, MOST_BORDER);
            System.arraycopy(other.borderJ, 0, borderJ, 0, MOST_BORDER);
            System.arraycopy(other.rules, 0, rules, 0, MOST_BORDER * MOST);
            System.arraycopy(other.pointA, 0, pointA, 0, MOST);
            System.arraycopy(other.pointB, 0, pointB, 0, MOST);
        }

        boolean contains(int i, int j) {
            return i >= 0 && i <= MOST && j >= 0 && j < heights[i];
        }

        int numberOf(int i, int j) {
            for (int k = 0; k < size; k++) {
                if (monomialI[k] == i && monomialJ[k] == j) {
                    return k;
                }
            }
            return NONE;
        }

        int borderNumberOf(int i, int j) {
            for (int k = 0; k < borderSize; k++) {
                if (borderI[k] == i && borderJ[k] == j) {
                    return k;
                }
            }
            return NONE;
        }

        /** The answer of refusal(). */
        int obstacle(int i, int j) {
            if (contains(i, j)) {
                return 1;
            }
            if ((i > 0 && !contains(i - 1, j)) || (j > 0 && !contains(i, j - 1))) {
                return 2;
            }
            return size >= MOST ? 3 : 0;
        }

        boolean isCorner(int i, int j) {
            return contains(i, j) && (i > 0 || j > 0) && !contains(i + 1, j) && !contains(i, j + 1);
        }

        /** Monomials that can join, be there room for them or not. */
        int candidates() {
            int found = 0;
            for (int k = 0; k < borderSize; k++) {
                int i = borderI[k];
                int j = borderJ[k];
                if (i <= TOP && j <= TOP && obstacle(i, j) != 2) {
                    found++;
                }
            }
            return found;
        }

        int corners() {
            int found = 0;
            for (int k = 0; k < size; k++) {
                if (isCorner(monomialI[k], monomialJ[k])) {
                    found++;
                }
            }
            return found;
        }

        /** Lets the top monomial of a column join or leave; old is overwritten with the state ahead of it. */
        void changeHeight(int i, int step, State old) {
            if (isOutside(i, TOP)) {
                return;
            }
            old.copyFrom(this);
            heights[i] += step;
            listMonomials();
            inheritRules(old);
        }

        void listMonomials() {
            size = 0;
            borderSize = 0;
            for (int degree = 0; degree <= MOST; degree++) {
                for (int j = 0; j <= degree; j++) {
                    listMonomial(degree - j, j);
                }
            }
        }

        private void listMonomial(int i, int j) {
            if (contains(i, j)) {
                if (size < MOST) {
                    monomialI[size] = i;
                    monomialJ[size] = j;
                    size++;
                }
            } else if (contains(i - 1, j) || contains(i, j - 1)) {
                if (borderSize < MOST_BORDER) {
                    borderI[borderSize] = i;
                    borderJ[borderSize] = j;
                    borderSize++;
                }
            }
        }

        private void inheritRules(State old) {
            Arrays.fill(rules, 0);
            for (int k = 0; k < borderSize; k++) {
                int oldBorder = old.borderNumberOf(borderI[k], borderJ[k]);
                for (int m = 0; m < size && oldBorder != NONE; m++) {
                    int oldNumber = old.numberOf(monomialI[m], monomialJ[m]);
                    rules[k * MOST + m] = old.coefficient(oldBorder, oldNumber);
                }
            }
        }

        boolean hasCoefficient(int border, int monomial) {
            return border >= 0 && border < borderSize && monomial >= 0 && monomial < size;
        }

        int coefficient(int border, int monomial) {
            return hasCoefficient(border, monomial) ? rules[border * MOST + monomial] : 0;
        }

        void setCoefficient(int border, int monomial, int number) {
            if (hasCoefficient(border, monomial)) {
                rules[border * MOST + monomial] = number;
            }
        }

        void clearRule(int border) {
            for (int k = 0; k < size; k++) {
                setCoefficient(border, k, 0);
            }
        }

        int coefficientsNotZero() {
            int found = 0;
            for (int k = 0; k < borderSize; k++) {
                for (int m = 0; m < size; m++) {
                    if (coefficient(k, m) != 0) {
                        found++;
                    }
                }
            }
            return found;
        }

        boolean hasSameIdeal(State other) {
            for (int i = 0; i <= MOST; i++) {
                if (heights[i] != other.heights[i]) {
                    return false;
                }
            }
            return true;
        }

        /** The number of rules that differ from those of another state of the same order ideal. */
        int otherRules(State other) {
            int found = 0;
            for (int k = 0; k < borderSize; k++) {
                if (hasOtherRule(other, k)) {
                    found++;
                }
            }
            return found;
        }

        private boolean hasOtherRule(State other, int border) {
            for (int m = 0; m < size; m++) {
                if (coefficient(border, m) != other.coefficient(border, m)) {
                    return true;
                }
            }
            return false;
        }

        boolean hasPoint(int a, int b) {
            for (int k = 0; k < pointCount; k++) {
                if (pointA[k] == a && pointB[k] == b) {
                    return true;
                }
            }
            return false;
        }

        void appendPoint(int a, int b) {
            if (pointCount < MOST) {
                pointA[pointCount] = a;
                pointB[pointCount] = b;
                pointCount++;
            }
        }

        void deletePoint(int index) {
            for (int k = index; k >= 0 && k < pointCount - 1; k++) {
                pointA[k] = pointA[k + 1];
                pointB[k] = pointB[k + 1];
            }
            pointCount--;
        }
    }

    /** The states ahead of the latest changes, the oldest overwritten first. */
    private static final class History {
        final State[] states = new State[UNDO_LIMIT];
        int next;
        int depth;

        void remember(State state) {
            if (states[next] == null) {
                states[next] = new State();
            }
            states[next].copyFrom(state);
            next = (next + 1) % UNDO_LIMIT;
            depth = Math.min(depth + 1, UNDO_LIMIT);
        }

        void bringBack(State state) {
            int latest = (next + UNDO_LIMIT - 1) % UNDO_LIMIT;
            if (depth > 0 && states[latest] != null) {
                state.copyFrom(states[latest]);
                next = latest;
                depth--;
            }
        }
    }

    /** A point and the powers of its coordinates. */
    private static final class Spot {
        final int[] powersA = new int[MOST + 1];
        final int[] powersB = new int[MOST + 1];
        int prime;

        void moveTo(int a, int b, int newPrime) {
            prime = newPrime;
            powersA[0] = 1;
            powersB[0] = 1;
            for (int k = 1; k <= MOST; k++) {
                powersA[k] = residue(powersA[k - 1] * a, prime);
                powersB[k] = residue(powersB[k - 1] * b, prime);
            }
        }

        int valueOfMonomial(int i, int j) {
            if (isOutside(i, MOST) || isOutside(j, MOST)) {
                return 0;
            }
            return residue(powersA[i] * powersB[j], prime);
        }

        int valueOfRule(State state, int border) {
            if (isOutside(border, state.borderSize - 1)) {
                return 0;
            }
            int sum = 0;
            for (int k = 0; k < state.size; k++) {
                int coefficient = state.coefficient(border, k);
                if (coefficient != 0) {
                    sum += coefficient * valueOfMonomial(state.monomialI[k], state.monomialJ[k]);
                }
            }
            return residue(valueOfMonomial(state.borderI[border], state.borderJ[border]) - sum, prime);
        }

        boolean isZeroOf(State state) {
            for (int k = 0; k < state.borderSize; k++) {
                if (valueOfRule(state, k) != 0) {
                    return false;
                }
            }
            return true;
        }
    }

    /** Rows of numbers modulo a prime, in the upper left of a field of a fixed size. */
    private static final class Matrix {
        final int height;
        final int width;
        final int[] cells;
        final int[] pivots;
        int rows;
        int columns;
        int determinant;

        Matrix(int height, int width) {
            this.height = height;
            this.width = width;
            cells = new int[height * width];
            pivots = new int[height];
        }

        void clear(int newRows, int newColumns) {
            rows = Math.min(newRows, height);
            columns = Math.min(newColumns, width);
            Arrays.fill(cells, 0);
        }

        boolean has(int row, int column) {
            return row >= 0 && row < rows && column >= 0 && column < columns;
        }

        int at(int row, int column) {
            return has(row, column) ? cells[row * width + column] : 0;
        }

        void put(int row, int column, int number) {
            if (has(row, column)) {
                cells[row * width + column] = number;
            }
        }

        void becomeIdentity(int side) {
            clear(side, side);
            for (int k = 0; k < rows; k++) {
                put(k, k, 1);
            }
        }

        /** Takes over another matrix less a multiple of the identity. */
        void becomeShifted(Matrix other, int shift, int prime) {
            clear(other.rows, other.columns);
            copyRows(other, 0);
            for (int k = 0; k < rows; k++) {
                put(k, k, residue(at(k, k) - shift, prime));
            }
        }

        void copyRows(Matrix other, int firstRow) {
            int copied = Math.min(other.rows, rows - firstRow);
            int length = Math.min(other.columns, columns);
            for (int row = 0; row < copied && firstRow >= 0 && length > 0; row++) {
                System.arraycopy(other.cells, row * other.width, cells, (firstRow + row) * width, length);
            }
        }

        /** The product of two square matrices of the same side; neither of them may be this one. */
        void becomeProduct(Matrix left, Matrix right, int prime) {
            clear(left.rows, right.columns);
            int side = Math.min(left.columns, right.rows);
            for (int row = 0; row < rows; row++) {
                for (int column = 0; column < columns; column++) {
                    int sum = 0;
                    for (int k = 0; k < side; k++) {
                        sum += left.cells[row * left.width + k] * right.cells[k * right.width + column];
                    }
                    cells[row * width + column] = residue(sum, prime);
                }
            }
        }

        /** The power of a square matrix, which is lost. */
        void becomePower(Matrix base, int exponent, Matrix scratch, int prime) {
            becomeIdentity(base.rows);
            for (int rest = exponent; rest > 0; rest >>= 1) {
                if ((rest & 1) == 1) {
                    scratch.becomeProduct(this, base, prime);
                    copyRows(scratch, 0);
                }
                if (rest > 1) {
                    scratch.becomeProduct(base, base, prime);
                    base.copyRows(scratch, 0);
                }
            }
        }

        int traceOfProduct(Matrix right, int prime) {
            int sum = 0;
            for (int row = 0; row < rows; row++) {
                for (int k = 0; k < columns; k++) {
                    sum += at(row, k) * right.at(k, row);
                }
            }
            return residue(sum, prime);
        }

        /** Puts matrix * vector in the place of the vector. */
        void applyTo(int[] vector, int[] scratch, int prime) {
            int side = Math.min(Math.min(rows, columns), Math.min(vector.length, scratch.length));
            for (int row = 0; row < side; row++) {
                int sum = 0;
                for (int k = 0; k < side; k++) {
                    sum += cells[row * width + k] * vector[k];
                }
                scratch[row] = residue(sum, prime);
            }
            System.arraycopy(scratch, 0, vector, 0, side);
        }

        /**
         * Brings the rows to the reduced echelon form and tells the rank. Then each column is the
         * same combination of the pivot columns as before, with its own numbers as coefficients.
         */
        int reduceRows(int prime) {
            determinant = 1;
            int rank = 0;
            for (int column = 0; column < columns && rank < rows; column++) {
                int found = pivotRow(rank, column);
                if (found == NONE) {
                    determinant = 0;
                    continue;
                }
                if (found != rank) {
                    swapRows(found, rank);
                    determinant = residue(-determinant, prime);
                }
                determinant = residue(determinant * at(rank, column), prime);
                scaleRow(rank, inverse(at(rank, column), prime), prime);
                clearColumn(rank, column, prime);
                pivots[rank] = column;
                rank++;
            }
            return rank;
        }

        private int pivotRow(int firstRow, int column) {
            for (int row = firstRow; row < rows; row++) {
                if (at(row, column) != 0) {
                    return row;
                }
            }
            return NONE;
        }

        private void swapRows(int one, int other) {
            for (int column = 0; column < columns; column++) {
                int kept = at(one, column);
                put(one, column, at(other, column));
                put(other, column, kept);
            }
        }

        private void scaleRow(int row, int factor, int prime) {
            for (int column = 0; column < columns; column++) {
                put(row, column, residue(at(row, column) * factor, prime));
            }
        }

        private void clearColumn(int pivot, int column, int prime) {
            for (int row = 0; row < rows; row++) {
                int factor = at(row, column);
                if (row != pivot && factor != 0) {
                    subtractRow(row, pivot, factor, prime);
                }
            }
        }

        private void subtractRow(int row, int pivot, int factor, int prime) {
            int from = pivot * width;
            int to = row * width;
            if (isOutside(row, rows - 1) || isOutside(pivot, rows - 1)) {
                return;
            }
            for (int column = 0; column < columns; column++) {
                cells[to + column] = residue(cells[to + column] - factor * cells[from + column], prime);
            }
        }
    }

    /** The tables X and Y of a state and what is computed with them. */
    private static final class Tables {
        final State state;
        final Matrix tableX = new Matrix(MOST, MOST);
        final Matrix tableY = new Matrix(MOST, MOST);
        final Matrix productXY = new Matrix(MOST, MOST);
        final Matrix productYX = new Matrix(MOST, MOST);
        final Matrix base = new Matrix(MOST, MOST);
        final Matrix powerX = new Matrix(MOST, MOST);
        final Matrix powerY = new Matrix(MOST, MOST);
        final Matrix scratch = new Matrix(MOST, MOST);
        final Matrix krylov = new Matrix(MOST, MOST + 1);
        final int[] vector = new int[MOST];
        final int[] scratchVector = new int[MOST];
        /** Row j: the normal form of (0, j). */
        final Matrix formsY = new Matrix(TERM_SPAN, MOST);
        /** False when the state has changed since the tables were made. */
        boolean known;
        int differing;
        int clashColumn;
        int clashRow;

        Tables(State state) {
            this.state = state;
        }

        Matrix ofVariable(int variable) {
            return variable == 0 ? tableX : tableY;
        }

        int cell(int variable, int row, int column) {
            prepare();
            return ofVariable(variable).at(row, column);
        }

        /** The number of places in which the products differ: 0 if the tables commute. */
        int differences() {
            prepare();
            return differing;
        }

        int firstDifference(int what) {
            prepare();
            switch (what) {
                case 0:
                    return clashColumn;
                case 1:
                    return clashRow;
                case 2:
                    return productXY.at(clashRow, clashColumn);
                default:
                    return productYX.at(clashRow, clashColumn);
            }
        }

        /** Called first by whatever needs the tables, but for the methods that say otherwise. */
        void prepare() {
            if (known) {
                return;
            }
            fillTable(tableX, 1, 0);
            fillTable(tableY, 0, 1);
            productXY.becomeProduct(tableX, tableY, state.prime);
            productYX.becomeProduct(tableY, tableX, state.prime);
            compareProducts();
            known = true;
        }

        private void fillTable(Matrix table, int stepI, int stepJ) {
            table.clear(state.size, state.size);
            for (int k = 0; k < state.size; k++) {
                int i = state.monomialI[k] + stepI;
                int j = state.monomialJ[k] + stepJ;
                int number = state.numberOf(i, j);
                if (number != NONE) {
                    table.put(number, k, 1);
                } else {
                    int border = state.borderNumberOf(i, j);
                    for (int row = 0; row < state.size; row++) {
                        table.put(row, k, state.coefficient(border, row));
                    }
                }
            }
        }

        private void compareProducts() {
            differing = 0;
            for (int column = 0; column < state.size; column++) {
                for (int row = 0; row < state.size; row++) {
                    if (productXY.at(row, column) != productYX.at(row, column)) {
                        if (differing == 0) {
                            clashColumn = column;
                            clashRow = row;
                        }
                        differing++;
                    }
                }
            }
        }

        int traceOfPowers(int i, int j) {
            prepare();
            raise(powerX, 0, 0, i);
            raise(powerY, 1, 0, j);
            return powerX.traceOfProduct(powerY, state.prime);
        }

        /** Makes a matrix (table - shift * I)^exponent of a table that is prepared. */
        void raise(Matrix target, int variable, int shift, int exponent) {
            base.becomeShifted(ofVariable(variable), shift, state.prime);
            target.becomePower(base, exponent, scratch, state.prime);
        }

        /** With tables that are prepared. */
        void normalFormOfMonomial(int i, int j, int[] target) {
            Arrays.fill(target, 0);
            if (target.length > 0) {
                target[0] = 1;
            }
            for (int k = 0; k < j; k++) {
                tableY.applyTo(target, scratchVector, state.prime);
            }
            for (int k = 0; k < i; k++) {
                tableX.applyTo(target, scratchVector, state.prime);
            }
        }

        /** By Horner's rule in X, as X is applied last: the coefficient of (i, j) stands at i * TERM_SPAN + j. */
        void normalFormOf(int[] polynomial, int[] target) {
            prepare();
            listFormsY();
            Arrays.fill(target, 0);
            for (int i = TERM_LIMIT; i >= 0; i--) {
                tableX.applyTo(target, scratchVector, state.prime);
                for (int j = 0; j <= TERM_LIMIT; j++) {
                    int place = i * TERM_SPAN + j;
                    if (place < polynomial.length && polynomial[place] != 0) {
                        addForm(target, polynomial[place], j);
                    }
                }
            }
        }

        private void listFormsY() {
            formsY.clear(TERM_SPAN, state.size);
            normalFormOfMonomial(0, 0, vector);
            for (int j = 0; j <= TERM_LIMIT; j++) {
                for (int k = 0; k < state.size; k++) {
                    formsY.put(j, k, vector[k]);
                }
                tableY.applyTo(vector, scratchVector, state.prime);
            }
        }

        private void addForm(int[] target, int coefficient, int j) {
            for (int k = 0; k < state.size && k < target.length; k++) {
                target[k] = residue(target[k] + coefficient * formsY.at(j, k), state.prime);
            }
        }

        int determinantOf(int variable) {
            prepare();
            base.becomeShifted(ofVariable(variable), 0, state.prime);
            base.reduceRows(state.prime);
            return base.determinant;
        }

        int nullityOf(int variable, int shift) {
            prepare();
            base.becomeShifted(ofVariable(variable), shift, state.prime);
            return state.size - base.reduceRows(state.prime);
        }

        /**
         * Marks the numbers that a coordinate of a zero can be. For a zero (a, b), the row v of the
         * monomials' values has v * X = a * v and v * e = 1: so q(X) * e = 0 makes q(a) = 0. The
         * q of the least degree comes from the columns e, X * e, X * X * e, .. of the table, which
         * must be prepared.
         */
        void markRoots(int variable, boolean[] roots) {
            Matrix table = ofVariable(variable);
            krylov.clear(state.size, state.size + 1);
            normalFormOfMonomial(0, 0, vector);
            for (int column = 0; column <= state.size; column++) {
                for (int row = 0; row < state.size; row++) {
                    krylov.put(row, column, vector[row]);
                }
                table.applyTo(vector, scratchVector, state.prime);
            }
            int degree = krylov.reduceRows(state.prime);
            for (int number = 0; number < state.prime && number < roots.length; number++) {
                roots[number] = isRoot(number, degree);
            }
        }

        /** Column number degree of krylov tells how that power is made of the lower ones. */
        private boolean isRoot(int number, int degree) {
            int sum = 1;
            for (int k = degree - 1; k >= 0; k--) {
                sum = residue(sum * number - krylov.at(k, degree), state.prime);
            }
            return sum == 0;
        }
    }

    /** The zeros of a state and their multiplicities. */
    private static final class Zeros {
        final State state;
        final Tables tables;
        final Spot spot;
        final boolean[] rootsA = new boolean[GREATEST_PRIME];
        final boolean[] rootsB = new boolean[GREATEST_PRIME];
        /** At most MOST: the rows of the monomials' values at different zeros are independent. */
        final int[] zeroA = new int[MOST];
        final int[] zeroB = new int[MOST];
        /** NONE where it has not been asked for yet. */
        final int[] multiplicities = new int[MOST];
        final Matrix power = new Matrix(MOST, MOST);
        final Matrix stacked = new Matrix(2 * MOST, MOST);
        final Matrix form = new Matrix(MOST, MOST);
        final Matrix[] monomialTables = new Matrix[MOST];
        boolean known;
        int found;
        int distinct = NONE;

        Zeros(State state, Tables tables, Spot spot) {
            this.state = state;
            this.tables = tables;
            this.spot = spot;
        }

        void forget() {
            known = false;
            distinct = NONE;
        }

        int number() {
            find();
            return found;
        }

        int indexOf(int a, int b) {
            find();
            for (int k = 0; k < found; k++) {
                if (zeroA[k] == a && zeroB[k] == b) {
                    return k;
                }
            }
            return NONE;
        }

        private void find() {
            if (known) {
                return;
            }
            tables.prepare();
            tables.markRoots(0, rootsA);
            tables.markRoots(1, rootsB);
            found = 0;
            for (int a = 0; a < state.prime && a < GREATEST_PRIME; a++) {
                for (int b = 0; rootsA[a] && b < state.prime && b < GREATEST_PRIME; b++) {
                    if (rootsB[b]) {
                        tryPoint(a, b);
                    }
                }
            }
            Arrays.fill(multiplicities, NONE);
            known = true;
        }

        private void tryPoint(int a, int b) {
            spot.moveTo(a, b, state.prime);
            if (found < MOST && spot.isZeroOf(state)) {
                zeroA[found] = a;
                zeroB[found] = b;
                found++;
            }
        }

        /** To be asked when the zeros have been found; right only if the tables commute. */
        int multiplicityOf(int index) {
            if (isOutside(index, found - 1)) {
                return 0;
            }
            if (multiplicities[index] == NONE) {
                int size = state.size;
                stacked.clear(2 * size, size);
                tables.raise(power, 0, zeroA[index], size);
                stacked.copyRows(power, 0);
                tables.raise(power, 1, zeroB[index], size);
                stacked.copyRows(power, size);
                multiplicities[index] = size - stacked.reduceRows(state.prime);
            }
            return multiplicities[index];
        }

        int allMultiplicities() {
            find();
            int sum = 0;
            for (int k = 0; k < found; k++) {
                sum += multiplicityOf(k);
            }
            return sum;
        }

        /** The rank of the trace form; right only if the tables commute. */
        int distinctEverywhere() {
            if (distinct == NONE) {
                tables.prepare();
                fillForm();
                distinct = form.reduceRows(state.prime);
            }
            return distinct;
        }

        /** As the tables commute, the product of two monomials has the product of their tables. */
        private void fillForm() {
            makeMonomialTables();
            form.clear(state.size, state.size);
            for (int row = 0; row < state.size; row++) {
                for (int column = 0; column <= row; column++) {
                    Matrix left = monomialTables[row];
                    Matrix right = monomialTables[column];
                    if (left != null && right != null) {
                        int trace = left.traceOfProduct(right, state.prime);
                        form.put(row, column, trace);
                        form.put(column, row, trace);
                    }
                }
            }
        }

        private void makeMonomialTables() {
            for (int k = 0; k < state.size; k++) {
                if (monomialTables[k] == null) {
                    monomialTables[k] = new Matrix(MOST, MOST);
                }
                makeMonomialTable(monomialTables[k], state.monomialI[k], state.monomialJ[k]);
            }
        }

        /** From the table of a divisor, whose number is less. */
        private void makeMonomialTable(Matrix target, int i, int j) {
            int variable = i > 0 ? 0 : 1;
            int divisor = i > 0 ? state.numberOf(i - 1, j) : state.numberOf(i, j - 1);
            if (divisor == NONE || monomialTables[divisor] == null) {
                target.becomeIdentity(state.size);
            } else {
                target.becomeProduct(tables.ofVariable(variable), monomialTables[divisor], state.prime);
            }
        }
    }

    /** Makes the border basis of points. */
    private static final class Fitter {
        final Spot spot;
        /** A row for each point, a column for each monomial, in their order. */
        final Matrix values = new Matrix(MOST, ALL_MONOMIALS);

        Fitter(Spot spot) {
            this.spot = spot;
        }

        /**
         * Gives the target the points of the source and their border basis. The pivot columns are
         * the monomials that are no combination of those ahead of them: a multiple of one that is
         * such a combination is one, too, so these are just the monomials that fitting takes.
         */
        void fitPoints(State source, State target) {
            fillValues(source);
            int rank = values.reduceRows(source.prime);
            target.copyFrom(source);
            Arrays.fill(target.heights, 0);
            for (int row = 0; row < rank; row++) {
                int exponent = exponentOfColumn(values.pivots[row]);
                target.heights[exponent]++;
            }
            target.listMonomials();
            Arrays.fill(target.rules, 0);
            for (int k = 0; k < target.borderSize; k++) {
                int column = columnOf(target.borderI[k], target.borderJ[k]);
                for (int row = 0; row < rank; row++) {
                    target.setCoefficient(k, row, values.at(row, column));
                }
            }
        }

        private void fillValues(State source) {
            int degrees = source.pointCount;
            values.clear(source.pointCount, (degrees + 1) * (degrees + 2) / 2);
            for (int row = 0; row < source.pointCount; row++) {
                spot.moveTo(source.pointA[row], source.pointB[row], source.prime);
                for (int degree = 0; degree <= degrees; degree++) {
                    for (int j = 0; j <= degree; j++) {
                        int i = degree - j;
                        values.put(row, columnOf(i, j), spot.valueOfMonomial(i, j));
                    }
                }
            }
        }

        private static int columnOf(int i, int j) {
            return (i + j) * (i + j + 1) / 2 + j;
        }

        /** The i of the monomial that a column belongs to. */
        private static int exponentOfColumn(int column) {
            for (int degree = 0; degree <= MOST; degree++) {
                int j = column - columnOf(degree, 0);
                if (j >= 0 && j <= degree) {
                    return degree - j;
                }
            }
            return 0;
        }
    }

    /** The text buffer and its present token. */
    private static final class Text {
        static final int END = 0;
        static final int WORD = 1;
        static final int NUMBER = 2;
        static final int NO_TOKEN = 3;
        /** Above every limit, so that longer numbers need not be told apart. */
        static final int HUGE = 100000;

        final byte[] bytes = new byte[TEXT_LIMIT];
        int length;
        /** END, WORD, NUMBER, NO_TOKEN or the symbol itself. */
        int kind;
        int start;
        int next;
        int number;

        void append(byte added) {
            if (length < TEXT_LIMIT) {
                bytes[length] = added;
                length++;
            }
        }

        void rewind() {
            next = 0;
            advance();
        }

        void advance() {
            while (next < length && (byteAt(next) == ' ' || byteAt(next) == '\n')) {
                next++;
            }
            start = next;
            int first = byteAt(next);
            if (next >= length) {
                kind = END;
            } else if (isLetter(first)) {
                kind = WORD;
                while (next < length && isLetter(byteAt(next))) {
                    next++;
                }
            } else if (isDigit(first)) {
                kind = NUMBER;
                number = 0;
                while (next < length && isDigit(byteAt(next))) {
                    number = Math.min(number * 10 + byteAt(next) - '0', HUGE);
                    next++;
                }
            } else {
                kind = first == ';' || first == ',' || first == '-' ? first : NO_TOKEN;
                next++;
            }
        }

        boolean isWord(String word) {
            if (kind != WORD || next - start != word.length()) {
                return false;
            }
            for (int k = 0; k < word.length(); k++) {
                if (byteAt(start + k) != word.charAt(k)) {
                    return false;
                }
            }
            return true;
        }

        private int byteAt(int index) {
            return index >= 0 && index < length && index < TEXT_LIMIT ? bytes[index] & 255 : 0;
        }

        private static boolean isLetter(int sign) {
            return sign >= 'a' && sign <= 'z';
        }

        private static boolean isDigit(int sign) {
            return sign >= '0' && sign <= '9';
        }
    }

    /** Reads setups and polynomials; each reading method tells whether all was right so far. */
    private static final class Parser {
        final Text text;
        final State spare;
        final State setup = new State();
        /** The coefficient of (i, j) stands at i * TERM_SPAN + j. */
        final int[] polynomial = new int[TERM_SPAN * TERM_SPAN];
        int wrongCode;
        int wrongPosition = NONE;
        /** The latest two numbers and the latest coefficient, and where the latest number began. */
        int first;
        int second;
        int coefficient;
        int numberStart;
        /** The border monomial of the rule that is read. */
        int border;

        Parser(Text text, State spare) {
            this.text = text;
            this.spare = spare;
        }

        boolean readSetup() {
            begin();
            setup.reset();
            boolean right = true;
            for (int done = 0; right && text.kind != Text.END && done < TEXT_LIMIT; done++) {
                right = readStatement(done == 0) && takeSymbol(';');
            }
            return right;
        }

        boolean readPolynomial(int prime) {
            begin();
            Arrays.fill(polynomial, 0);
            for (int done = 0; done < TEXT_LIMIT; done++) {
                if (!readTerm(TERM_LIMIT, prime)) {
                    return false;
                }
                int place = first * TERM_SPAN + second;
                if (place >= 0 && place < polynomial.length) {
                    polynomial[place] = residue(polynomial[place] + coefficient, prime);
                }
                if (text.kind == Text.END) {
                    return true;
                }
                if (!takeSymbol(',')) {
                    return false;
                }
            }
            return true;
        }

        private void begin() {
            wrongCode = 0;
            wrongPosition = NONE;
            text.rewind();
        }

        private boolean fail(int code, int position) {
            wrongCode = code;
            wrongPosition = position;
            return false;
        }

        private boolean readStatement(boolean isFirst) {
            if (text.isWord("join")) {
                return readJoin();
            }
            if (text.isWord("rule")) {
                return readRuleHead() && readRuleTerms();
            }
            if (text.isWord("point")) {
                return readPoint();
            }
            if (isFirst && text.isWord("prime")) {
                return readPrime();
            }
            return fail(NOT_ALLOWED, text.start);
        }

        private boolean readPrime() {
            text.advance();
            if (!takeNumber(GREATEST_PRIME)) {
                return false;
            }
            if (!isPrimeAllowed(second)) {
                return fail(OUT_OF_RANGE, numberStart);
            }
            setup.prime = second;
            return true;
        }

        private boolean readJoin() {
            if (setup.size >= MOST) {
                return fail(TOO_MANY, text.start);
            }
            text.advance();
            if (!takeNumber(TOP) || !takeNumber(TOP)) {
                return false;
            }
            if (setup.obstacle(first, second) != 0) {
                return fail(WRONG_MONOMIAL, numberStart);
            }
            setup.changeHeight(first, 1, spare);
            return true;
        }

        private boolean readRuleHead() {
            text.advance();
            if (!takeNumber(TOP + 1) || !takeNumber(TOP + 1)) {
                return false;
            }
            border = setup.borderNumberOf(first, second);
            if (border == NONE) {
                return fail(WRONG_MONOMIAL, numberStart);
            }
            if (!text.isWord("is")) {
                return fail(NOT_ALLOWED, text.start);
            }
            text.advance();
            setup.clearRule(border);
            return true;
        }

        private boolean readRuleTerms() {
            if (text.kind == ';') {
                return true;
            }
            int seen = 0;
            for (int done = 0; done < TEXT_LIMIT; done++) {
                if (!readTerm(TOP, setup.prime)) {
                    return false;
                }
                int monomial = setup.numberOf(first, second);
                if (monomial == NONE) {
                    return fail(WRONG_MONOMIAL, numberStart);
                }
                if ((seen & 1 << monomial) != 0) {
                    return fail(REPEATED, numberStart);
                }
                seen |= 1 << monomial;
                setup.setCoefficient(border, monomial, coefficient);
                if (text.kind != ',') {
                    return true;
                }
                text.advance();
            }
            return true;
        }

        private boolean readPoint() {
            if (setup.pointCount >= MOST) {
                return fail(TOO_MANY, text.start);
            }
            text.advance();
            if (!takeNumber(setup.prime - 1) || !takeNumber(setup.prime - 1)) {
                return false;
            }
            if (setup.hasPoint(first, second)) {
                return fail(REPEATED, numberStart);
            }
            setup.appendPoint(first, second);
            return true;
        }

        private boolean readTerm(int limit, int prime) {
            boolean negative = text.kind == '-';
            if (negative) {
                text.advance();
            }
            if (!takeNumber(COEFFICIENT_LIMIT)) {
                return false;
            }
            coefficient = residue(negative ? -second : second, prime);
            return takeNumber(limit) && takeNumber(limit);
        }

        private boolean takeNumber(int limit) {
            if (text.kind != Text.NUMBER) {
                return fail(NOT_ALLOWED, text.start);
            }
            if (text.number > limit) {
                return fail(OUT_OF_RANGE, text.start);
            }
            first = second;
            second = text.number;
            numberStart = text.start;
            text.advance();
            return true;
        }

        private boolean takeSymbol(int symbol) {
            if (text.kind != symbol) {
                return fail(NOT_ALLOWED, text.start);
            }
            text.advance();
            return true;
        }
    }
}
