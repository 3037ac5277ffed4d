import java.util.ArrayList;
import java.util.List;

/**
 * Systems made of their zeros, so that all answers are known ahead. A thick point stands for the
 * derivatives that vanish there (as many as its multiplicity); a point outside of the field comes with
 * its conjugate, in numbers u + v * w with w * w no square. The rules are the only ones whose
 * derivatives vanish; traces and determinants are sums and products over the points.
 */
public final class ThickPointTest {
    private static final int[] PRIMES = {13, 17, 31, 53, 89, 97};
    private static final int SYSTEMS = 400;
    private static final int MOST = 12;

    /** A number u + v * w. */
    private record Pair(int u, int v) {
    }

    private record Mono(int i, int j) {
    }

    private record Thick(Pair a, Pair b, List<Mono> derivatives) {
        boolean isOutside() {
            return a.v != 0 || b.v != 0;
        }

        /** How often the point counts, the conjugate included. */
        int weight() {
            return derivatives.size() * (isOutside() ? 2 : 1);
        }
    }

    private static long seed = 1;
    private static int prime;
    /** w * w. */
    private static int noSquare;
    private static final List<Thick> points = new ArrayList<>();

    private ThickPointTest() {
    }

    private static int random(int bound) {
        seed = seed * 6364136223846793005L + 1442695040888963407L;
        return (int) ((seed >>> 33) % bound);
    }

    private static int residue(int number) {
        return Math.floorMod(number, prime);
    }

    private static Pair product(Pair one, Pair other) {
        return new Pair(residue(one.u * other.u + noSquare * residue(one.v * other.v)),
            residue(one.u * other.v + one.v * other.u));
    }

    private static Pair power(Pair base, int exponent) {
        Pair power = new Pair(1, 0);
        for (int k = 0; k < exponent; k++) {
            power = product(power, base);
        }
        return power;
    }

    /** Pascal's triangle modulo the prime. */
    private static int choose(int n, int k) {
        int[] row = new int[n + 1];
        row[0] = 1;
        for (int m = 1; m <= n; m++) {
            for (int c = m; c > 0; c--) {
                row[c] = residue(row[c] + row[c - 1]);
            }
        }
        return k > n ? 0 : row[k];
    }

    private static Pair derivative(Thick point, Mono by, Mono m) {
        if (by.i > m.i || by.j > m.j) {
            return new Pair(0, 0);
        }
        Pair value = product(power(point.a, m.i - by.i), power(point.b, m.j - by.j));
        return product(value, new Pair(residue(choose(m.i, by.i) * choose(m.j, by.j)), 0));
    }

    /** All derivatives of a monomial: a combination of monomials vanishes if it does so in each of them. */
    private static int[] derivatives(Mono m) {
        List<Integer> all = new ArrayList<>();
        for (Thick point : points) {
            for (Mono by : point.derivatives) {
                Pair value = derivative(point, by, m);
                all.add(value.u);
                if (point.isOutside()) {
                    all.add(value.v);
                }
            }
        }
        int[] row = new int[all.size()];
        for (int k = 0; k < row.length; k++) {
            row[k] = all.get(k);
        }
        return row;
    }

    /** Makes the points anew and tells how often they count together. */
    private static int choosePoints() {
        prime = PRIMES[random(PRIMES.length)];
        noSquare = 2;
        while (Samples.power(noSquare, (prime - 1) / 2, prime) == 1) {
            noSquare++;
        }
        points.clear();
        int most = 1 + random(MOST);
        int sum = 0;
        for (int tries = 0; tries < 20; tries++) {
            Thick point = choosePoint(random(10) < 3, random(2) == 0 ? 2 : prime);
            if (sum + point.weight() <= most && isNew(point)) {
                points.add(point);
                sum += point.weight();
            }
        }
        return sum;
    }

    private static Thick choosePoint(boolean outside, int spread) {
        List<Mono> derivatives = new ArrayList<>();
        derivatives.add(new Mono(0, 0));
        for (int k = random(5); k > 0; k--) {
            Mono m = new Mono(random(5), random(5));
            boolean hasLeft = m.i == 0 || derivatives.contains(new Mono(m.i - 1, m.j));
            boolean hasRight = m.j == 0 || derivatives.contains(new Mono(m.i, m.j - 1));
            if (hasLeft && hasRight && !derivatives.contains(m)) {
                derivatives.add(m);
            }
        }
        Pair a = new Pair(random(spread), outside ? random(prime) : 0);
        return new Thick(a, new Pair(random(spread), outside ? 1 + random(prime - 1) : 0), derivatives);
    }

    private static boolean isNew(Thick point) {
        for (Thick other : points) {
            boolean isSame = other.a.u == point.a.u && other.b.u == point.b.u;
            if (isSame && (other.a.equals(point.a) && other.b.equals(point.b)
                || other.a.v == residue(-point.a.v) && other.b.v == residue(-point.b.v))) {
                return false;
            }
        }
        return true;
    }

    /** The coefficients with which the rows make the last one, or nothing if they do not. */
    private static int[] combination(List<int[]> rows, int[] last) {
        int n = rows.size();
        int[][] equations = new int[last.length][n + 1];
        for (int k = 0; k < last.length; k++) {
            for (int c = 0; c < n; c++) {
                equations[k][c] = rows.get(c)[k];
            }
            equations[k][n] = last[k];
        }
        for (int c = 0; c < n; c++) {
            eliminate(equations, c);
        }
        int[] coefficients = new int[n];
        for (int k = 0; k < equations.length; k++) {
            if (k < n) {
                coefficients[k] = equations[k][n];
            } else if (equations[k][n] != 0) {
                return null;
            }
        }
        return coefficients;
    }

    /** The rows are independent, so that there is a pivot. */
    private static void eliminate(int[][] equations, int c) {
        int found = c;
        while (equations[found][c] == 0) {
            found++;
        }
        int[] pivot = equations[found];
        equations[found] = equations[c];
        equations[c] = pivot;
        int inverse = Samples.power(pivot[c], prime - 2, prime);
        for (int k = 0; k < pivot.length; k++) {
            pivot[k] = residue(pivot[k] * inverse);
        }
        for (int[] row : equations) {
            int factor = row[c];
            for (int k = 0; k < row.length && row != pivot; k++) {
                row[k] = residue(row[k] - factor * pivot[k]);
            }
        }
    }

    private static BorderBasis build(int size) {
        BorderBasis x = Checks.loaded("prime " + prime + ";");
        List<int[]> rows = new ArrayList<>();
        rows.add(derivatives(new Mono(0, 0)));
        for (int degree = 1; degree < size; degree++) {
            for (int j = 0; j <= degree; j++) {
                int[] row = derivatives(new Mono(degree - j, j));
                if (x.refusal(degree - j, j) == 0 && combination(rows, row) == null) {
                    Checks.due(rows.size(), x.join(degree - j, j));
                    rows.add(row);
                }
            }
        }
        Checks.due(size, x.count(1));
        for (int k = 0; k < x.count(2); k++) {
            int[] rule = combination(rows, derivatives(new Mono(x.border(k, 0), x.border(k, 1))));
            for (int m = 0; m < size; m++) {
                if (rule[m] != 0) {
                    x.setRule(k, m, rule[m]);
                }
            }
        }
        return x;
    }

    private static void checkZeros(BorderBasis x, int size) {
        int inField = 0;
        int distinct = 0;
        int multiplicities = 0;
        for (Thick point : points) {
            distinct += point.isOutside() ? 2 : 1;
            if (!point.isOutside()) {
                inField++;
                multiplicities += point.derivatives.size();
                Checks.due(point.derivatives.size(), x.multiplicity(point.a.u, point.b.u));
            }
        }
        Checks.due(inField, x.zeros(0));
        Checks.due(distinct, x.zeros(1));
        Checks.due(multiplicities, x.zeros(2));
        Checks.due((double) multiplicities / size, x.share());
        int before = -1;
        for (int k = 0; k < inField; k++) {
            int place = x.zero(k, 0) * prime + x.zero(k, 1);
            Checks.due(true, place > before);
            Checks.due(x.multiplicity(x.zero(k, 0), x.zero(k, 1)), x.zero(k, 2));
            before = place;
        }
    }

    /** The table of a monomial has its values at the points on the diagonal, in a basis of its own. */
    private static void checkTraces(BorderBasis x) {
        for (int k = 0; k < 6; k++) {
            int i = random(23);
            int j = random(23);
            int sum = 0;
            for (Thick point : points) {
                sum = residue(sum + product(power(point.a, i), power(point.b, j)).u * point.weight());
            }
            Checks.due(sum, x.trace(i, j));
        }
    }

    private static void checkDeterminants(BorderBasis x) {
        for (int variable = 0; variable < 2; variable++) {
            Pair all = new Pair(1, 0);
            for (Thick point : points) {
                Pair number = variable == 0 ? point.a : point.b;
                Pair norm = product(number, new Pair(number.u, residue(-number.v)));
                all = product(all, power(point.isOutside() ? norm : number, point.derivatives.size()));
            }
            Checks.due(all.u, x.determinant(variable));
        }
    }

    /** A normal form has the same derivatives as its monomial. */
    private static void checkNormalForm(BorderBasis x, int size) {
        Mono m = new Mono(random(23), random(23));
        int[] want = derivatives(m);
        int[] got = new int[want.length];
        for (int k = 0; k < size; k++) {
            int coefficient = x.normal(m.i, m.j, k);
            int[] row = derivatives(new Mono(x.monomial(k, 0), x.monomial(k, 1)));
            for (int d = 0; d < got.length; d++) {
                got[d] = residue(got[d] + coefficient * row[d]);
            }
        }
        for (int d = 0; d < got.length; d++) {
            Checks.due(want[d], got[d]);
        }
    }

    public static void main(String[] args) {
        for (int k = 0; k < SYSTEMS; k++) {
            Checks.about("system " + k);
            int size = choosePoints();
            if (size > 0) {
                BorderBasis x = build(size);
                Checks.due(true, x.commutes());
                Checks.due(0, x.clash(4));
                checkZeros(x, size);
                checkTraces(x);
                checkDeterminants(x);
                checkNormalForm(x, size);
            }
        }
        Checks.end();
    }
}
