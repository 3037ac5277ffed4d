/** Tables and zeros: a test for each sentence of the document that names an edge; promises 20 to 30. */
public final class TableEdgeTest {
    private static final int NONE = BorderBasis.NONE;
    /** x to the 12th is 1: modulo 13 the zeros are (1, 0) to (12, 0). */
    private static final String ALL_UNITS = "prime 13;" + Samples.row(12) + "rule 12 0 is 1 0 0;";
    /** {1, x} with x * x = 3, no square modulo 31, and y = 0. */
    private static final String OUTSIDE_OF_FIELD = "join 1 0; rule 2 0 is 3 0 0;";
    /** {1, x} with the zero (0, 0) of all rules, but tables that do not commute. */
    private static final String ZERO_OF_CLASH = "join 1 0; rule 0 1 is 1 1 0; rule 2 0 is 5 1 0; rule 1 1 is 7 1 0;";
    private static final int[] PRIMES = {13, 31, 97};

    private TableEdgeTest() {
    }

    private static void due(Object want, Object got) {
        Checks.due(want, got);
    }

    private static BorderBasis row(int size) {
        return Checks.loaded(Samples.row(size));
    }

    private static BorderBasis fitted(String text) {
        BorderBasis x = Checks.loaded(text);
        x.fit();
        return x;
    }

    private static BorderBasis clashing() {
        return Checks.loaded(Samples.CLASHING);
    }

    private static void tableOfIdeal() {
        Checks.sentence(0, "if that is in the order ideal, there is a 1 in its row and 0 in the others; otherwise it is a border monomial, and the column is its rule");
        BorderBasis x = Checks.loaded(Samples.row(12) + "rule 12 0 is 30 11 0, 1 0 0; rule 11 1 is 7 11 0; rule 0 1 is 8 0 0;");
        for (int column = 0; column < 11; column++) {
            for (int row = 0; row < 12; row++) {
                due(row == column + 1 ? 1 : 0, x.table(0, row, column));
            }
        }
        due(1, x.table(0, 0, 11));
        due(30, x.table(0, 11, 11));
        due(7, x.table(1, 11, 11));
        due(8, x.table(1, 0, 0));
        due(0, x.table(1, 1, 0));
        BorderBasis one = Checks.loaded("prime 97; rule 1 0 is 96 0 0; rule 0 1 is 95 0 0;");
        due(96, one.table(0, 0, 0));
        due(95, one.table(1, 0, 0));
    }

    private static void tableIndex() {
        Checks.sentence(20, "- row: 0 to n - 1");
        Checks.sentence(20, "- column: 0 to n - 1");
        Checks.sentence(20, "Throws IndexOutOfBoundsException if there is no such row or column");
        Checks.sentence(20, "- variable: 0: X; 1: Y");
        Checks.sentence(20, "if variable is out of range");
        for (int size = 1; size <= 12; size++) {
            BorderBasis x = row(size);
            int last = size - 1;
            due(0, x.table(0, last, last));
            due(0, x.table(1, last, last));
            for (int number : Samples.outside(size)) {
                Checks.dueThrow(Checks.INDEX, () -> x.table(0, number, last));
                Checks.dueThrow(Checks.INDEX, () -> x.table(1, last, number));
                Checks.dueThrow(Checks.INDEX, () -> x.table(2, number, 0));
                Checks.dueThrow(Checks.INDEX, () -> x.table(-1, 0, number));
            }
            for (int variable : Samples.outside(2)) {
                Checks.dueThrow(Checks.ARGUMENT, () -> x.table(variable, last, last));
            }
        }
        BorderBasis x = row(12);
        due(0, x.table(0, 11, 11));
        x.leave(11, 0);
        Checks.dueThrow(Checks.INDEX, () -> x.table(0, 11, 0));
        Checks.dueThrow(Checks.INDEX, () -> x.table(0, 0, 11));
    }

    private static void commuting() {
        Checks.sentence(21, "Returns whether the tables commute.");
        for (int size = 1; size <= 12; size++) {
            due(true, row(size).commutes());
        }
        due(true, fitted(Samples.points(12)).commutes());
        // two tables of one row commute whatever stands there
        due(true, Checks.loaded("rule 1 0 is 30 0 0; rule 0 1 is 29 0 0;").commutes());
        due(false, clashing().commutes());
        // a difference in the last column alone: x * xy is 0, but y * xx is 1
        BorderBasis x = Checks.loaded("join 1 0; join 2 0; rule 3 0 is 1 0 0; rule 1 1 is 1 0 0;");
        due(false, x.commutes());
    }

    private static void clashes() {
        Checks.sentence(22, "0: the least column in which X * Y and Y * X differ; 1: the least row in which they differ in this column");
        Checks.sentence(22, "4: in how many places (row and column) they differ");
        dueClash(clashing(), 0, 0, 1, 2, 4);
        // y is 1 * y in column 0; x times y is 0 in column 1, y times x is 30 * x
        dueClash(Checks.loaded("join 1 0; rule 1 1 is 30 1 0; rule 0 1 is 0 0 0;"), 0, 1, 0, 30, 1);
        dueClash(Checks.loaded("join 1 0; join 0 1; rule 2 0 is 1 0 0;"), 1, 2, 0, 1, 1);
        // the least column comes ahead of the least row: they differ in (1, 0) and (0, 1)
        dueClash(Checks.loaded("join 1 0; rule 2 0 is 1 0 0; rule 0 1 is 1 1 0; rule 1 1 is 1 0 0, 1 1 0;"), 0, 1, 0, 1, 2);
        BorderBasis all = Checks.loaded("prime 97;" + Samples.row(12));
        for (int k = 0; k < 12; k++) {
            all.setRule(0, k, 1);
            all.setRule(11, k, 2);
            all.setRule(12, k, 96 - k);
        }
        int[] clash = clashOf(all);
        dueClash(all, clash);
        Checks.sentence(22, "for 0 to 3 NONE, and for 4 0, if the tables commute");
        dueClash(new BorderBasis(), NONE, NONE, NONE, NONE, 0);
        dueClash(row(12), NONE, NONE, NONE, NONE, 0);
        dueClash(fitted(Samples.points(12)), NONE, NONE, NONE, NONE, 0);
        Checks.sentence(22, "if what is out of range");
        for (int what : Samples.outside(5)) {
            Checks.dueThrow(Checks.ARGUMENT, () -> new BorderBasis().clash(what));
            Checks.dueThrow(Checks.ARGUMENT, () -> clashing().clash(what));
        }
    }

    private static void dueClash(BorderBasis x, int... clash) {
        for (int what = 0; what < 5; what++) {
            due(what + ": " + clash[what], what + ": " + x.clash(what));
        }
    }

    private static int[][] tableOf(BorderBasis x, int variable) {
        int size = x.count(1);
        int[][] table = new int[size][size];
        for (int row = 0; row < size; row++) {
            for (int column = 0; column < size; column++) {
                table[row][column] = x.table(variable, row, column);
            }
        }
        return table;
    }

    private static int[][] product(int[][] left, int[][] right, int prime) {
        int size = left.length;
        int[][] product = new int[size][size];
        for (int row = 0; row < size; row++) {
            for (int column = 0; column < size; column++) {
                long sum = 0;
                for (int k = 0; k < size; k++) {
                    sum += (long) left[row][k] * right[k][column];
                }
                product[row][column] = (int) (sum % prime);
            }
        }
        return product;
    }

    private static int[][] powers(BorderBasis x, int i, int j) {
        int size = x.count(1);
        int[][] product = new int[size][size];
        for (int k = 0; k < size; k++) {
            product[k][k] = 1;
        }
        for (int k = 0; k < i; k++) {
            product = product(product, tableOf(x, 0), x.count(0));
        }
        for (int k = 0; k < j; k++) {
            product = product(product, tableOf(x, 1), x.count(0));
        }
        return product;
    }

    private static int[] clashOf(BorderBasis x) {
        int[][] one = product(tableOf(x, 0), tableOf(x, 1), x.count(0));
        int[][] other = product(tableOf(x, 1), tableOf(x, 0), x.count(0));
        int[] clash = {NONE, NONE, NONE, NONE, 0};
        for (int column = 0; column < one.length; column++) {
            for (int row = 0; row < one.length; row++) {
                if (one[row][column] != other[row][column]) {
                    if (clash[4] == 0) {
                        clash = new int[] {column, row, one[row][column], other[row][column], 0};
                    }
                    clash[4]++;
                }
            }
        }
        return clash;
    }

    private static void traces() {
        Checks.sentence(23, "- i: 0 to 22");
        Checks.sentence(23, "- j: 0 to 22");
        for (int size = 1; size <= 12; size++) {
            due(size, row(size).trace(0, 0));
            due(size, Checks.loaded("prime 13;" + Samples.row(size)).trace(0, 0));
        }
        // the trace is the sum of the values at the points that were fitted
        BorderBasis x = fitted("prime 97; point 2 96; point 5 3; point 96 0; point 0 95; point 0 0;");
        int[][] exponents = {{22, 22}, {22, 0}, {0, 22}, {21, 22}, {22, 21}, {1, 0}, {0, 1}};
        for (int[] e : exponents) {
            int sum = 0;
            for (int k = 0; k < 5; k++) {
                sum += Samples.power(x.point(k, 0), e[0], 97) * Samples.power(x.point(k, 1), e[1], 97);
            }
            due(sum % 97, x.trace(e[0], e[1]));
        }
        Checks.sentence(23, "if i or j is out of range");
        for (int number : Samples.outside(23)) {
            Checks.dueThrow(Checks.ARGUMENT, () -> x.trace(number, 0));
            Checks.dueThrow(Checks.ARGUMENT, () -> x.trace(22, number));
        }
        Checks.sentence(23, "(whether the tables commute or not)");
        BorderBasis y = clashing();
        due(2, y.trace(0, 0));
        due(7, y.trace(1, 1));
        int[][] all = {{1, 2}, {2, 2}, {3, 1}, {22, 22}, {0, 22}, {22, 0}};
        for (int[] e : all) {
            int[][] product = powers(y, e[0], e[1]);
            due((product[0][0] + product[1][1]) % 31, y.trace(e[0], e[1]));
        }
    }

    private static void normals() {
        Checks.sentence(24, "- i: 0 to 22");
        Checks.sentence(24, "- j: 0 to 22");
        // x * x = 4, y = 3 * x: 2 to the 22nd power is 4, 6 to the 22nd is 25, and -2, -6 have the same
        BorderBasis x = Checks.loaded(Samples.TWO_ZEROS);
        due(100 % 31, x.normal(22, 22, 0));
        due(0, x.normal(22, 22, 1));
        due(4, x.normal(22, 0, 0));
        due(25, x.normal(0, 22, 0));
        due(1, x.normal(0, 0, 0));
        due(0, x.normal(0, 0, 1));
        Checks.sentence(24, "if i or j is out of range");
        for (int number : Samples.outside(23)) {
            Checks.dueThrow(Checks.ARGUMENT, () -> x.normal(number, 0, 0));
            Checks.dueThrow(Checks.ARGUMENT, () -> x.normal(22, number, 1));
            Checks.dueThrow(Checks.INDEX, () -> x.normal(number, number, 2));
        }
        Checks.sentence(24, "- index: a monomial of the order ideal");
        Checks.sentence(24, "if there is no such monomial");
        for (int size = 1; size <= 12; size++) {
            BorderBasis y = row(size);
            due(1, y.normal(size - 1, 0, size - 1));
            for (int index : Samples.outside(size)) {
                Checks.dueThrow(Checks.INDEX, () -> y.normal(0, 0, index));
                Checks.dueThrow(Checks.INDEX, () -> y.normal(23, -1, index));
            }
        }
        Checks.sentence(0, "(Y is applied j times first, then X i times)");
        BorderBasis z = clashing();
        int[][] exponents = {{1, 1}, {2, 1}, {1, 2}, {22, 22}, {1, 22}, {22, 1}};
        for (int[] e : exponents) {
            int[][] product = powers(z, e[0], e[1]);
            due(product[0][0], z.normal(e[0], e[1], 0));
            due(product[1][0], z.normal(e[0], e[1], 1));
        }
        due(1, z.normal(1, 1, 0));
        due(2, z.normal(1, 1, 1));
    }

    private static void polynomials() {
        Checks.sentence(0, "that of a polynomial is the sum of coefficient * normal form");
        BorderBasis z = clashing();
        due(2, Checks.reduce(z, "1 1 1"));
        due(1, z.result(0));
        due(2, z.result(1));
        int[][] product = powers(z, 20, 20);
        Checks.reduce(z, "5 20 20, -3 0 0");
        due(Math.floorMod(5 * product[0][0] - 3, 31), z.result(0));
        due(5 * product[1][0] % 31, z.result(1));
        BorderBasis x = fitted("prime 97; point 96 96; point 5 0; point 0 7;");
        Checks.reduce(x, "999 20 20, -999 19 0, 500 0 20, 96 20 0, -1 0 19");
        int[][] terms = {{999, 20, 20}, {-999, 19, 0}, {500, 0, 20}, {96, 20, 0}, {-1, 0, 19}};
        for (int k = 0; k < 3; k++) {
            int a = x.point(k, 0);
            int b = x.point(k, 1);
            int want = 0;
            for (int[] t : terms) {
                want += t[0] * (Samples.power(a, t[1], 97) * Samples.power(b, t[2], 97) % 97);
            }
            // {1, x, y}
            due(Math.floorMod(want, 97), (x.result(0) + x.result(1) * a + x.result(2) * b) % 97);
        }
    }

    private static void determinants() {
        Checks.sentence(25, "Returns the determinant of the table.");
        for (int prime : PRIMES) {
            BorderBasis one = Checks.loaded("prime " + prime + "; rule 1 0 is -1 0 0;");
            due(prime - 1, one.determinant(0));
            due(0, one.determinant(1));
            BorderBasis unit = Checks.loaded("prime " + prime + ";" + Samples.row(12) + "rule 12 0 is 1 0 0;");
            // a circle of twelve is an odd permutation
            due(prime - 1, unit.determinant(0));
            due(0, unit.determinant(1));
        }
        due(1, Checks.loaded(Samples.row(11) + "rule 11 0 is 1 0 0;").determinant(0));
        due(30, clashing().determinant(0));
        due(2, clashing().determinant(1));
        Checks.sentence(25, "- variable: 0: X; 1: Y");
        Checks.sentence(25, "if variable is out of range");
        for (int variable : Samples.outside(2)) {
            Checks.dueThrow(Checks.ARGUMENT, () -> new BorderBasis().determinant(variable));
            Checks.dueThrow(Checks.ARGUMENT, () -> clashing().determinant(variable));
        }
    }

    private static void kernels() {
        Checks.sentence(26, "Returns n less the rank of (table - value * I).");
        Checks.sentence(26, "- variable: 0: X; 1: Y");
        Checks.sentence(26, "- value: 0 to P - 1");
        Checks.sentence(26, "Throws IllegalArgumentException if variable or value is out of range");
        for (int prime : PRIMES) {
            String head = "prime " + prime + "; point " + (prime - 1) + " ";
            StringBuilder text = new StringBuilder("prime " + prime + ";");
            for (int b = 0; b < 12; b++) {
                text.append("point ").append(prime - 1).append(' ').append(b).append(';');
            }
            BorderBasis x = fitted(text.toString());
            // X is (P - 1) * I, Y has the values 0 to 11
            due(12, x.kernel(0, prime - 1));
            due(0, x.kernel(0, 0));
            due(0, x.kernel(0, prime - 2));
            due(1, x.kernel(1, 0));
            due(1, x.kernel(1, 11));
            due(0, x.kernel(1, 12));
            due(1, fitted(head + "0;").kernel(1, 0));
            for (int value : Samples.outside(prime)) {
                Checks.dueThrow(Checks.ARGUMENT, () -> x.kernel(0, value));
                Checks.dueThrow(Checks.ARGUMENT, () -> x.kernel(1, value));
            }
            for (int variable : Samples.outside(2)) {
                Checks.dueThrow(Checks.ARGUMENT, () -> x.kernel(variable, 0));
            }
        }
        due(1, row(12).kernel(0, 0));
        due(12, row(12).kernel(1, 0));
        due(0, row(12).kernel(1, 30));
        due(1, new BorderBasis().kernel(0, 0));
        due(0, new BorderBasis().kernel(0, 1));
    }

    private static void dueZeros(BorderBasis x, int inField, int distinct, int multiplicities) {
        due("0: " + inField, "0: " + x.zeros(0));
        due("1: " + distinct, "1: " + x.zeros(1));
        due("2: " + multiplicities, "2: " + x.zeros(2));
    }

    private static void dueZero(BorderBasis x, int index, int a, int b, int multiplicity) {
        due(a, x.zero(index, 0));
        due(b, x.zero(index, 1));
        due(multiplicity, x.zero(index, 2));
    }

    private static void numbersOfZeros() {
        Checks.sentence(27, "0: the number of zeros; 1: the number of distinct zeros, those outside the field included; 2: the sum of the multiplicities of all zeros");
        dueZeros(new BorderBasis(), 1, 1, 1);
        for (int size = 1; size <= 12; size++) {
            dueZeros(row(size), 1, 1, size);
            dueZeros(Checks.loaded("prime 13;" + Samples.column(size)), 1, 1, size);
            dueZeros(fitted(Samples.points(size)), size, size, size);
        }
        dueZeros(Checks.loaded(ALL_UNITS), 12, 12, 12);
        dueZeros(Checks.loaded(OUTSIDE_OF_FIELD), 0, 2, 0);
        // x to the 12th less 2: 2 is no square modulo 13, so there is no zero in the field
        dueZeros(Checks.loaded("prime 13;" + Samples.row(12) + "rule 12 0 is 2 0 0;"), 0, 12, 0);
        // (x * x - 3) to the 2nd power: two zeros outside the field, each twice
        dueZeros(Checks.loaded(Samples.row(4) + "rule 4 0 is 6 2 0, -9 0 0;"), 0, 2, 0);
        // x to the 10th * (x * x - 3)
        dueZeros(Checks.loaded(Samples.row(12) + "rule 12 0 is 3 10 0;"), 1, 3, 10);
        Checks.sentence(27, "NONE for 1 and 2 if the tables do not commute");
        dueZeros(clashing(), 0, NONE, NONE);
        dueZeros(Checks.loaded(ZERO_OF_CLASH), 1, NONE, NONE);
        Checks.sentence(27, "if what is out of range");
        for (int what : Samples.outside(3)) {
            Checks.dueThrow(Checks.ARGUMENT, () -> new BorderBasis().zeros(what));
            Checks.dueThrow(Checks.ARGUMENT, () -> clashing().zeros(what));
        }
    }

    private static void placesOfZeros() {
        Checks.sentence(0, "A zero is a point (a, b), a and b from 0 to P - 1, at which all rules have the value 0.");
        for (int prime : PRIMES) {
            int top = prime - 1;
            String head = "prime " + prime + ";";
            dueZero(Checks.loaded(head + "rule 1 0 is -1 0 0; rule 0 1 is -1 0 0;"), 0, top, top, 1);
            dueZero(Checks.loaded(head), 0, 0, 0, 1);
            BorderBasis x = fitted(head + "point " + top + " 0; point " + top + " " + top + "; point 0 " + top + "; point 0 0;");
            Checks.sentence(0, "Zeros are numbered from 0 by a, then by b.");
            dueZero(x, 0, 0, 0, 1);
            dueZero(x, 1, 0, top, 1);
            dueZero(x, 2, top, 0, 1);
            dueZero(x, 3, top, top, 1);
        }
        BorderBasis units = Checks.loaded(ALL_UNITS);
        for (int k = 0; k < 12; k++) {
            dueZero(units, k, k + 1, 0, 1);
        }
        // one rule alone that is not 0 at (0, 0), and it is the last
        due(0, Checks.loaded("join 1 0; rule 1 1 is 1 0 0;").zeros(0));
        // y is 1, x * y is 0 only where x is 0
        dueZero(Checks.loaded("join 1 0; rule 0 1 is 1 0 0; rule 2 0 is 1 1 0;"), 0, 0, 1, NONE);
        due(1, Checks.loaded("join 1 0; rule 0 1 is 1 0 0; rule 2 0 is 1 1 0;").zeros(0));
    }

    private static void zeroIndex() {
        Checks.sentence(28, "- index: a zero");
        Checks.sentence(28, "if there is no such zero");
        Checks.sentence(28, "if what is out of range");
        for (int size = 1; size <= 12; size++) {
            BorderBasis x = fitted(Samples.points(size));
            dueZero(x, size - 1, size - 1, size - 1, 1);
            for (int index : Samples.outside(size)) {
                Checks.dueThrow(Checks.INDEX, () -> x.zero(index, 0));
                Checks.dueThrow(Checks.INDEX, () -> x.zero(index, 2));
                Checks.dueThrow(Checks.INDEX, () -> x.zero(index, 3));
            }
            for (int what : Samples.outside(3)) {
                Checks.dueThrow(Checks.ARGUMENT, () -> x.zero(0, what));
            }
        }
        Checks.dueThrow(Checks.INDEX, () -> clashing().zero(0, 0));
        Checks.dueThrow(Checks.INDEX, () -> clashing().zero(0, 2));
        Checks.dueThrow(Checks.INDEX, () -> Checks.loaded(OUTSIDE_OF_FIELD).zero(0, 0));
        Checks.dueThrow(Checks.INDEX, () -> Checks.loaded(OUTSIDE_OF_FIELD).zero(0, 3));
        // what was a zero ahead of a change is none any more
        BorderBasis x = fitted(Samples.points(3));
        due(3, x.zeros(0));
        // y is x + 1, and x * y is x * x: only where x is 0
        x.setRule(0, 0, 1);
        dueZero(x, 0, 0, 1, NONE);
        Checks.dueThrow(Checks.INDEX, () -> x.zero(1, 0));
        x.undo();
        dueZero(x, 2, 2, 2, 1);
        Checks.sentence(28, "2: its multiplicity (NONE if the tables do not commute)");
        dueZero(Checks.loaded(ZERO_OF_CLASH), 0, 0, 0, NONE);
        Checks.dueThrow(Checks.ARGUMENT, () -> Checks.loaded(ZERO_OF_CLASH).zero(0, 3));
        dueZero(row(12), 0, 0, 0, 12);
    }

    private static void multiplicities() {
        Checks.sentence(29, "- a: 0 to P - 1");
        Checks.sentence(29, "- b: 0 to P - 1");
        Checks.sentence(29, "Throws IllegalArgumentException if a or b is out of range");
        for (int prime : PRIMES) {
            String head = "prime " + prime + ";";
            int top = prime - 1;
            BorderBasis x = Checks.loaded(head + "rule 1 0 is -1 0 0; rule 0 1 is -1 0 0;");
            due(1, x.multiplicity(top, top));
            due(0, x.multiplicity(0, 0));
            due(0, x.multiplicity(0, top));
            due(0, x.multiplicity(top, 0));
            for (int number : Samples.outside(prime)) {
                Checks.dueThrow(Checks.ARGUMENT, () -> x.multiplicity(number, 0));
                Checks.dueThrow(Checks.ARGUMENT, () -> x.multiplicity(0, number));
            }
            for (int size = 1; size <= 12; size++) {
                due(size, Checks.loaded(head + Samples.row(size)).multiplicity(0, 0));
                due(0, Checks.loaded(head + Samples.row(size)).multiplicity(0, 1));
                due(0, Checks.loaded(head + Samples.column(size)).multiplicity(1, 0));
            }
        }
        // x to the 11th * (x - 1): 11 times (0, 0) and once (1, 0)
        BorderBasis x = Checks.loaded(Samples.row(12) + "rule 12 0 is 1 11 0;");
        due(11, x.multiplicity(0, 0));
        due(1, x.multiplicity(1, 0));
        Checks.sentence(29, "(0 if it is no zero); NONE if the tables do not commute");
        due(0, Checks.loaded(OUTSIDE_OF_FIELD).multiplicity(0, 0));
        due(NONE, clashing().multiplicity(0, 0));
        due(NONE, Checks.loaded(ZERO_OF_CLASH).multiplicity(0, 0));
        due(NONE, Checks.loaded(ZERO_OF_CLASH).multiplicity(30, 30));
        Checks.dueThrow(Checks.ARGUMENT, () -> clashing().multiplicity(31, 0));
    }

    /** All rules 0 make (0, 0) the only zero, n times; zeros above one another are told apart by Y, side by side by X. */
    private static void stackedPowers() {
        Checks.sentence(0, "the multiplicity of a point (a, b) is n less the rank of the matrix of 2 * n rows that consists of (X - a * I)^n and, below it, (Y - b * I)^n");
        String[] ideals = {"join 1 0; join 0 1;", "join 1 0; join 0 1; join 1 1;", "join 0 1; join 0 2; join 1 0; join 1 1; join 2 0;",
            Samples.row(6) + "join 0 1; join 1 1; join 2 1; join 3 1; join 4 1; join 5 1;", Samples.row(11) + "join 0 1;"};
        int[] sizes = {3, 4, 6, 12, 12};
        for (int k = 0; k < ideals.length; k++) {
            BorderBasis x = Checks.loaded(ideals[k]);
            dueZeros(x, 1, 1, sizes[k]);
            dueZero(x, 0, 0, 0, sizes[k]);
            due(sizes[k], x.multiplicity(0, 0));
            due(0, x.multiplicity(0, 1));
            due(0, x.multiplicity(1, 0));
        }
        for (int prime : PRIMES) {
            BorderBasis column = Checks.loaded("prime " + prime + ";");
            BorderBasis row = Checks.loaded("prime " + prime + ";");
            for (int k = 0; k < 12; k++) {
                column.addPoint(prime - 1, k);
                row.addPoint(k, prime - 1);
            }
            column.fit();
            row.fit();
            for (int k = 0; k < 12; k++) {
                dueZero(column, k, prime - 1, k, 1);
                dueZero(row, k, k, prime - 1, 1);
                due(1, column.multiplicity(prime - 1, k));
                due(0, column.multiplicity(prime - 2, k));
                due(0, row.multiplicity(k, 0));
            }
        }
        // x * x = 0 and y * (y - 1) * (y - 2) = 0
        BorderBasis pairs = Checks.loaded("join 1 0; join 0 1; join 1 1; join 0 2; join 1 2;"
            + "rule 0 3 is 3 0 2, -2 0 1; rule 1 3 is 3 1 2, -2 1 1;");
        dueZeros(pairs, 3, 3, 6);
        for (int b = 0; b < 3; b++) {
            dueZero(pairs, b, 0, b, 2);
        }
        // x * x = 3 has no zero in the field, y * y * (y - 1) = 0 has two
        BorderBasis outside = Checks.loaded("join 1 0; join 0 1; join 1 1; join 0 2; join 1 2;"
            + "rule 2 0 is 3 0 0; rule 2 1 is 3 0 1; rule 2 2 is 3 0 2; rule 0 3 is 1 0 2; rule 1 3 is 1 1 2;");
        Checks.sentence(0, "the number of distinct zeros, those outside the field included, is the rank of the trace form");
        dueZeros(outside, 0, 4, 0);
    }

    private static void shares() {
        Checks.sentence(30, "their sum divided by n, in double precision; -1.0 if the tables do not commute");
        due(-1.0, clashing().share());
        due(-1.0, Checks.loaded(ZERO_OF_CLASH).share());
        due(0.0, Checks.loaded(OUTSIDE_OF_FIELD).share());
        due(1.0, new BorderBasis().share());
        due(1.0, row(12).share());
        due(1.0, fitted(Samples.points(12)).share());
        for (int size = 3; size <= 12; size++) {
            // x to the (size - 2) * (x * x - 3)
            BorderBasis x = Checks.loaded(Samples.row(size) + "rule " + size + " 0 is 3 " + (size - 2) + " 0;");
            due((size - 2) / (double) size, x.share());
        }
    }

    public static void main(String[] args) {
        tableOfIdeal();
        tableIndex();
        commuting();
        clashes();
        traces();
        normals();
        polynomials();
        determinants();
        kernels();
        numbersOfZeros();
        placesOfZeros();
        zeroIndex();
        multiplicities();
        stackedPowers();
        shares();
        Checks.end();
    }
}
