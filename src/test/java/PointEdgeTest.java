import java.util.ArrayList;
import java.util.List;

/** Points and fitting: a test for each sentence of the document that names an edge; promises 31 to 35. */
public final class PointEdgeTest {
    private static final int NONE = BorderBasis.NONE;
    private static final int MOST = 12;
    private static final int[] PRIMES = {13, 31, 97};

    private PointEdgeTest() {
    }

    private static void due(Object want, Object got) {
        Checks.due(want, got);
    }

    private static BorderBasis withPoints(int number) {
        return Checks.loaded(Samples.points(number));
    }

    private static void duePoint(BorderBasis x, int index, int a, int b) {
        due(a, x.point(index, 0));
        due(b, x.point(index, 1));
    }

    private static void coordinates() {
        Checks.sentence(31, "- a: 0 to P - 1");
        Checks.sentence(31, "- b: 0 to P - 1");
        Checks.sentence(31, "Throws IllegalArgumentException if a or b is out of range");
        for (int prime : PRIMES) {
            BorderBasis x = Checks.loaded("prime " + prime + ";");
            int top = prime - 1;
            due(0, x.addPoint(top, top));
            due(1, x.addPoint(0, 0));
            due(2, x.addPoint(top, 0));
            due(3, x.addPoint(0, top));
            for (int number : Samples.outside(prime)) {
                Checks.dueThrow(Checks.ARGUMENT, () -> x.addPoint(number, 1));
                Checks.dueThrow(Checks.ARGUMENT, () -> x.addPoint(1, number));
            }
            due(4, x.count(4));
            due(4, x.changes(3));
            duePoint(x, 0, top, top);
            duePoint(x, 3, 0, top);
        }
    }

    private static void twelvePoints() {
        Checks.sentence(0, "There are at most 12 points (a, b), all different, numbered from 0 in the order in which they were added");
        Checks.sentence(31, "Returns its number.");
        BorderBasis x = new BorderBasis();
        for (int k = 0; k < MOST; k++) {
            due(k, x.addPoint(30 - k, k % 2));
            due(k + 1, x.count(4));
        }
        for (int k = 0; k < MOST; k++) {
            duePoint(x, k, 30 - k, k % 2);
        }
        Checks.sentence(31, "if it is there already, or there are 12 points");
        Checks.dueThrow(Checks.STATE, () -> x.addPoint(0, 0));
        Checks.dueThrow(Checks.STATE, () -> x.addPoint(30, 0));
        Checks.dueThrow(Checks.ARGUMENT, () -> x.addPoint(31, 0));
        Checks.dueThrow(Checks.ARGUMENT, () -> x.addPoint(0, -1));
        due(12, x.changes(3));
        due(11, x.removePoint(11));
        due(11, x.addPoint(0, 0));
        Checks.dueThrow(Checks.STATE, () -> x.addPoint(0, 1));
    }

    private static void differentPoints() {
        Checks.sentence(31, "if it is there already, or there are 12 points");
        BorderBasis x = new BorderBasis();
        due(0, x.addPoint(1, 2));
        Checks.dueThrow(Checks.STATE, () -> x.addPoint(1, 2));
        due(1, x.addPoint(2, 1));
        due(2, x.addPoint(1, 1));
        due(3, x.addPoint(2, 2));
        int[][] there = {{1, 2}, {2, 1}, {1, 1}, {2, 2}};
        for (int[] p : there) {
            Checks.dueThrow(Checks.STATE, () -> x.addPoint(p[0], p[1]));
        }
        due(3, x.removePoint(0));
        due(3, x.addPoint(1, 2));
        due(5, x.changes(3));
        x.undo();
        due(3, x.addPoint(1, 2));
    }

    private static void removed() {
        Checks.sentence(0, "if one is removed, the numbers of those behind it decrease by 1");
        Checks.sentence(32, "Returns the number of points then.");
        for (int number = 1; number <= MOST; number++) {
            for (int index = 0; index < number; index++) {
                BorderBasis x = withPoints(number);
                due(number - 1, x.removePoint(index));
                due(number - 1, x.count(4));
                for (int k = 0; k < number - 1; k++) {
                    int kept = k < index ? k : k + 1;
                    duePoint(x, k, kept, kept);
                }
                int last = number - 1;
                Checks.dueThrow(Checks.INDEX, () -> x.point(last, 0));
                Checks.dueThrow(Checks.INDEX, () -> x.removePoint(last));
            }
        }
        BorderBasis x = withPoints(12);
        for (int left = 11; left >= 0; left--) {
            due(left, x.removePoint(left / 2));
        }
        Checks.dueThrow(Checks.INDEX, () -> x.removePoint(0));
        due(12, x.changes(4));
        due(0, x.addPoint(5, 5));
    }

    private static void indexOfPoint() {
        Checks.sentence(32, "- index: a point");
        Checks.sentence(33, "- index: a point");
        Checks.sentence(32, "if there is no such point");
        Checks.sentence(33, "if there is no such point");
        Checks.sentence(33, "if what is out of range");
        for (int number = 0; number <= MOST; number++) {
            BorderBasis x = withPoints(number);
            for (int index : Samples.outside(number)) {
                Checks.dueThrow(Checks.INDEX, () -> x.removePoint(index));
                Checks.dueThrow(Checks.INDEX, () -> x.point(index, 0));
                Checks.dueThrow(Checks.INDEX, () -> x.point(index, 2));
                Checks.dueThrow(Checks.INDEX, () -> x.point(index, 3));
            }
            if (number > 0) {
                duePoint(x, number - 1, number - 1, number - 1);
                for (int what : Samples.outside(3)) {
                    Checks.dueThrow(Checks.ARGUMENT, () -> x.point(0, what));
                }
            }
            due(number, x.count(4));
        }
    }

    private static void pointAsZero() {
        Checks.sentence(33, "2: 1 if it is a zero, else 0");
        BorderBasis x = withPoints(12);
        due(1, x.point(0, 2));
        for (int k = 1; k < 12; k++) {
            due(0, x.point(k, 2));
        }
        x.fit();
        for (int k = 0; k < 12; k++) {
            due(1, x.point(k, 2));
        }
        x.removePoint(0);
        x.addPoint(30, 29);
        due(0, x.point(11, 2));
        due(1, x.point(10, 2));
        // the last rule alone decides, and tables that do not commute have zeros, too
        x.setRule(12, 0, 1);
        due(false, x.commutes());
        due(0, x.point(10, 2));
        BorderBasis y = Checks.loaded("join 1 0; rule 0 1 is 1 1 0; rule 2 0 is 5 1 0; rule 1 1 is 7 1 0; point 0 0; point 1 1;");
        due(false, y.commutes());
        due(1, y.point(0, 2));
        due(0, y.point(1, 2));
        for (int prime : PRIMES) {
            int top = prime - 1;
            BorderBasis z = Checks.loaded("prime " + prime + "; rule 1 0 is -1 0 0; rule 0 1 is -1 0 0; point 0 0; point "
                + top + " " + top + "; point 0 " + top + "; point " + top + " 0;");
            due(0, z.point(0, 2));
            due(1, z.point(1, 2));
            due(0, z.point(2, 2));
            due(0, z.point(3, 2));
        }
    }

    private static void noPoints() {
        Checks.sentence(34, "if there are no points");
        BorderBasis x = Checks.loaded("join 1 0; rule 2 0 is 4 0 0;");
        Checks.dueThrow(Checks.STATE, () -> x.fit());
        due(2, x.count(1));
        due(1, x.count(3));
        due(0, x.count(5));
        due(0, x.changes(5));
        x.addPoint(3, 4);
        x.removePoint(0);
        Checks.dueThrow(Checks.STATE, () -> x.fit());
        Checks.sentence(35, "or there are no points");
        due(NONE, x.misfits());
        due(NONE, new BorderBasis().misfits());
    }

    private static void onePoint() {
        Checks.sentence(34, "Returns the number of monomials of the order ideal then.");
        for (int prime : PRIMES) {
            int[] numbers = {0, 1, prime - 1};
            for (int a : numbers) {
                for (int b : numbers) {
                    BorderBasis x = Checks.loaded("prime " + prime + ";" + Samples.row(12) + "point " + a + " " + b + ";");
                    due(1, x.fit());
                    due(2, x.count(2));
                    due(a, x.rule(0, 0));
                    due(b, x.rule(1, 0));
                    due(1, x.zeros(0));
                    due(a, x.zero(0, 0));
                    due(b, x.zero(0, 1));
                }
            }
        }
    }

    private static void lines() {
        Checks.sentence(0, "until as many are taken as there are points");
        for (int prime : PRIMES) {
            for (int number = 1; number <= MOST; number++) {
                BorderBasis column = new BorderBasis();
                BorderBasis row = new BorderBasis();
                BorderBasis diagonal = new BorderBasis();
                Checks.load(column, "prime " + prime + ";");
                Checks.load(row, "prime " + prime + ";");
                Checks.load(diagonal, "prime " + prime + ";");
                for (int k = 0; k < number; k++) {
                    column.addPoint(prime - 1, prime - 1 - k);
                    row.addPoint(k, 0);
                    diagonal.addPoint(prime - 1 - k, prime - 1 - k);
                }
                dueFit(column, number, 0, 1);
                dueFit(row, number, 1, 0);
                // x is taken ahead of y, which is x then
                dueFit(diagonal, number, 1, 0);
            }
        }
    }

    /** {1, m, m * m, ..} with m = (stepI, stepJ). */
    private static void dueFit(BorderBasis x, int number, int stepI, int stepJ) {
        due(number, x.fit());
        for (int k = 0; k < number; k++) {
            due(k, x.place(k * stepI, k * stepJ));
        }
        dueVanishing(x);
    }

    private static void dueVanishing(BorderBasis x) {
        int number = x.count(4);
        for (int k = 0; k < number; k++) {
            for (int border = 0; border < x.count(2); border++) {
                due(0, x.value(border, x.point(k, 0), x.point(k, 1)));
            }
        }
        due(number, x.zeros(0));
        due(number, x.zeros(2));
        due(0, x.misfits());
    }

    /** The points (i, j) for all (i, j) of an order ideal have just this order ideal: tried with all of at most 12. */
    private static void ideals() {
        Checks.sentence(0, "a monomial whose divisors (i - 1, j) and (i, j - 1), as far as there are such, were all taken is taken, too, if the row of its values at the points is no linear combination of those of the monomials that were taken");
        Checks.sentence(0, "the rules are those (they are the only ones) whose values are 0 at all points");
        List<int[]> all = new ArrayList<>();
        for (int number = 1; number <= MOST; number++) {
            addIdeals(all, new int[MOST], 0, number, number);
        }
        due(1 + 2 + 3 + 5 + 7 + 11 + 15 + 22 + 30 + 42 + 56 + 77, all.size());
        for (int[] heights : all) {
            BorderBasis x = new BorderBasis();
            Checks.load(x, "prime 13;");
            int number = 0;
            // shifted, so that 0 is a coordinate like any other
            for (int i = MOST - 1; i >= 0; i--) {
                for (int j = 0; j < heights[i]; j++) {
                    x.addPoint((i + 5) % 13, (12 - j) % 13);
                    number++;
                }
            }
            due(number, x.fit());
            for (int i = 0; i < MOST; i++) {
                for (int j = 0; j < MOST; j++) {
                    due(j < heights[i], x.place(i, j) >= 0 && x.place(i, j) < 100);
                }
            }
            dueVanishing(x);
        }
    }

    private static void addIdeals(List<int[]> all, int[] heights, int column, int left, int highest) {
        if (left == 0) {
            all.add(heights.clone());
        }
        for (int height = Math.min(left, highest); height > 0 && column < MOST; height--) {
            heights[column] = height;
            addIdeals(all, heights, column + 1, left - height, height);
            heights[column] = 0;
        }
    }

    private static void fitIsExact() {
        Checks.sentence(34, "Makes the border basis of all points (a change).");
        // y = x * x at 1, 2 and 3: {1, x, y}, xy = xxx = 6xx - 11x + 6, yy = x^4 = 25xx - 60x + 36
        BorderBasis x = Checks.loaded("point 3 9; point 1 1; point 2 4;");
        due(3, x.fit());
        int[][] rules = {{0, 0, 1}, {6, 20, 6}, {5, 2, 25}};
        for (int border = 0; border < 3; border++) {
            for (int monomial = 0; monomial < 3; monomial++) {
                due(rules[border][monomial], x.rule(border, monomial));
            }
        }
        due(3, x.count(4));
        duePoint(x, 0, 3, 9);
        due(1, x.count(5));
        due(3, x.fit());
        due(2, x.count(5));
        due(2, x.changes(5));
        due(1, x.undo());
        due(3, x.count(1));
        due(0, x.undo());
        due(1, x.count(1));
        // a larger order ideal and its rules are gone
        BorderBasis y = Checks.loaded(Samples.row(12) + "rule 12 0 is 5 11 0; rule 0 1 is 6 11 0; point 1 0; point 2 0;");
        due(2, y.fit());
        due(2, y.count(3));
        due(29, y.rule(1, 0));
        due(3, y.rule(1, 1));
    }

    private static void otherIdeal() {
        Checks.sentence(35, "NONE if the order ideal is not the one that fit() would make");
        BorderBasis x = withPoints(2);
        due(NONE, x.misfits());
        x.join(0, 1);
        due(NONE, x.misfits());
        x.leave(0, 1);
        x.join(1, 0);
        due(3, x.misfits());
        x.join(2, 0);
        due(NONE, x.misfits());
        x.leave(2, 0);
        x.join(0, 1);
        due(NONE, x.misfits());
        BorderBasis full = Checks.loaded(Samples.points(12) + Samples.column(12));
        due(NONE, full.misfits());
        full.leave(0, 11);
        due(NONE, full.misfits());
        full.fit();
        due(0, full.misfits());
        full.removePoint(3);
        due(NONE, full.misfits());
        full.undo();
        due(0, full.misfits());
    }

    private static void otherRules() {
        Checks.sentence(35, "Returns the number of rules of the present order ideal that differ, in any coefficient, from those that fit() would make");
        BorderBasis x = withPoints(12);
        x.fit();
        for (int border = 0; border < 13; border++) {
            due(border, x.misfits());
            int monomial = border * 11 / 12;
            int right = x.rule(border, monomial);
            x.setRule(border, monomial, (right + 1) % 31);
            due(border + 1, x.misfits());
            int other = 11 - monomial;
            x.setRule(border, other, (x.rule(border, other) + 1) % 31);
            due(border + 1, x.misfits());
            x.setRule(border, other, (x.rule(border, other) + 30) % 31);
            due(border + 1, x.misfits());
        }
        due(1, x.changes(5));
        due(12, x.count(4));
        due(12, x.fit());
        due(0, x.misfits());
        // the least and the greatest coefficient, the first and the last
        BorderBasis one = Checks.loaded("point 0 30;");
        due(1, one.misfits());
        one.setRule(1, 0, 30);
        due(0, one.misfits());
        one.setRule(0, 0, 30);
        due(1, one.misfits());
        one.setRule(1, 0, 0);
        due(2, one.misfits());
    }

    private static void misfitsChangesNothing() {
        Checks.sentence(35, "Returns the number of rules");
        BorderBasis x = Checks.loaded(Samples.row(12) + Samples.points(3) + "rule 12 0 is 5 11 0;");
        due(NONE, x.misfits());
        due(12, x.count(1));
        due(1, x.count(3));
        due(0, x.count(5));
        due(0, x.changes(5));
        due(5, x.rule(11, 11));
        due(3, x.count(4));
    }

    public static void main(String[] args) {
        coordinates();
        twelvePoints();
        differentPoints();
        removed();
        indexOfPoint();
        pointAsZero();
        noPoints();
        onePoint();
        lines();
        ideals();
        fitIsExact();
        otherIdeal();
        otherRules();
        misfitsChangesNothing();
        Checks.end();
    }
}
