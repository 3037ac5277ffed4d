/** The order ideal, its border and the rules: a test for each sentence that names an edge; promises 1, 9 and 11 to 19. */
public final class IdealEdgeTest {
    private static final int NONE = BorderBasis.NONE;
    private static final int MOST = 12;
    /** All monomials of the degrees 0 to 3. */
    private static final int[][] TRIANGLE = {{0, 0}, {1, 0}, {0, 1}, {2, 0}, {1, 1}, {0, 2}, {3, 0}, {2, 1}, {1, 2}, {0, 3}};

    private IdealEdgeTest() {
    }

    private static void due(Object want, Object got) {
        Checks.due(want, got);
    }

    private static BorderBasis row(int size) {
        return Checks.loaded(Samples.row(size));
    }

    private static BorderBasis column(int size) {
        return Checks.loaded(Samples.column(size));
    }

    private static BorderBasis triangle() {
        BorderBasis x = new BorderBasis();
        for (int k = 1; k < TRIANGLE.length; k++) {
            due(k, x.join(TRIANGLE[k][0], TRIANGLE[k][1]));
        }
        return x;
    }

    private static void dueCounts(BorderBasis x, int... counts) {
        for (int what = 0; what < counts.length; what++) {
            due(what + ": " + counts[what], what + ": " + x.count(what));
        }
    }

    private static void atFirst() {
        Checks.sentence(1, "Creates a basis as told \"at first\", without points, with an empty text buffer, no changes and no saved states.");
        BorderBasis x = new BorderBasis();
        dueCounts(x, 31, 1, 2, 0, 0, 0, 2, 0);
        due(0, x.place(0, 0));
        due(100, x.place(1, 0));
        due(101, x.place(0, 1));
        due(0, x.rule(0, 0));
        due(0, x.rule(1, 0));
        for (int kind = 0; kind < 6; kind++) {
            due(0, x.changes(kind));
        }
        Checks.dueThrow(Checks.INDEX, () -> x.point(0, 0));
        Checks.dueThrow(Checks.INDEX, () -> x.removePoint(0));
        Checks.dueThrow(Checks.STATE, () -> x.fit());
        due(NONE, x.misfits());
        Checks.dueThrow(Checks.ARGUMENT, () -> x.truncateText(1));
        due(0, x.truncateText(0));
        due(NONE, x.undo());
        for (int slot = 0; slot < 2; slot++) {
            int empty = slot;
            Checks.dueThrow(Checks.STATE, () -> restored(x, empty));
        }
        due(4, x.appendText(0x3B3B3B3B));
        due(NONE, x.load());
    }

    private static Object restored(BorderBasis x, int slot) {
        x.restore(slot);
        return null;
    }

    /** What one object does is nothing to another. */
    private static void twoObjects() {
        Checks.sentence(1, "Creates a basis as told \"at first\"");
        BorderBasis one = Checks.loaded("prime 13; join 1 0; rule 2 0 is 5 0 0; point 1 2;");
        one.save(0);
        one.appendText(0x20202020);
        Checks.reduce(one, "?");
        BorderBasis other = new BorderBasis();
        dueCounts(other, 31, 1, 2, 0, 0, 0, 2, 0);
        due(0, other.errorCode());
        due(0, other.truncateText(0));
        other.join(0, 1);
        other.addPoint(30, 30);
        dueCounts(one, 13, 2, 3, 1, 1, 0, 2, 1);
    }

    private static void primeOfCount() {
        Checks.sentence(0, "one of the primes from 13 to 97; 31 at first");
        due(31, new BorderBasis().count(0));
        due(13, Checks.loaded("prime 13;").count(0));
        due(97, Checks.loaded("prime 97;").count(0));
        Checks.sentence(0, "told as 0 to P - 1");
        int[] primes = {13, 31, 97};
        for (int prime : primes) {
            BorderBasis x = Checks.loaded("prime " + prime + "; rule 1 0 is 1 0 0; rule 0 1 is - 1 0 0;");
            due(1, x.rule(0, 0));
            due(prime - 1, x.rule(1, 0));
            due(prime - 1, x.value(0, 0, 0));
            due(1, x.value(1, 0, 0));
            due(1, x.setRule(0, 0, prime - 1));
            due(prime - 1, x.setRule(1, 0, 0));
            due(prime - 1, x.determinant(0));
        }
    }

    private static void order() {
        Checks.sentence(0, "Monomials are ordered by their degrees i + j, then by j");
        Checks.sentence(0, "Its monomials are numbered from 0 in their order.");
        Checks.sentence(0, "its monomials (i and j from 0 to 12) are numbered from 0 in their order.");
        BorderBasis x = triangle();
        for (int k = 0; k < TRIANGLE.length; k++) {
            due(TRIANGLE[k][0], x.monomial(k, 0));
            due(TRIANGLE[k][1], x.monomial(k, 1));
            due(k, x.place(TRIANGLE[k][0], TRIANGLE[k][1]));
        }
        for (int j = 0; j <= 4; j++) {
            due(4 - j, x.border(j, 0));
            due(j, x.border(j, 1));
        }
        // the order in which they join does not matter
        BorderBasis y = Checks.loaded("join 0 1; join 0 2; join 0 3; join 1 0; join 1 1; join 1 2; join 2 0; join 2 1; join 3 0;");
        for (int k = 0; k < TRIANGLE.length; k++) {
            due(k, y.place(TRIANGLE[k][0], TRIANGLE[k][1]));
        }
    }

    private static void sizes() {
        Checks.sentence(0, "The order ideal is a set of 1 to 12 monomials with i and j from 0 to 11");
        BorderBasis x = new BorderBasis();
        BorderBasis y = new BorderBasis();
        for (int k = 1; k < MOST; k++) {
            due(k, x.join(k, 0));
            due(k, y.join(0, k));
            due(k + 1, x.count(1));
            due(k + 2, x.count(2));
            due(k + 2, y.count(2));
        }
        Checks.dueThrow(Checks.STATE, () -> x.join(0, 1));
        Checks.dueThrow(Checks.ARGUMENT, () -> x.join(12, 0));
        Checks.dueThrow(Checks.STATE, () -> y.join(1, 0));
        Checks.dueThrow(Checks.ARGUMENT, () -> y.join(0, 12));
        for (int k = MOST - 1; k > 0; k--) {
            due(k, x.leave(k, 0));
            due(k, y.leave(0, k));
            due(k, x.count(1));
        }
        Checks.dueThrow(Checks.STATE, () -> x.leave(0, 0));
        dueCounts(x, 31, 1, 2, 0, 0, 8, 2, 0);
        dueCounts(y, 31, 1, 2, 0, 0, 8, 2, 0);
        Checks.sentence(0, "at first it is only (0, 0)");
        due(0, new BorderBasis().monomial(0, 0));
        due(0, new BorderBasis().monomial(0, 1));
    }

    private static void canJoin() {
        Checks.sentence(0, "A monomial can join it if it is not in it, and (i - 1, j), if i > 0, and (i, j - 1), if j > 0, are in it.");
        BorderBasis x = Checks.loaded("join 1 0; join 2 0; join 0 1; join 0 2; join 1 1;");
        String[] joins = {"1110222", "110222", "10222", "02222", "2222"};
        for (int j = 0; j < joins.length; j++) {
            for (int i = 0; i < joins[j].length(); i++) {
                due(joins[j].charAt(i) - '0', x.refusal(i, j));
                boolean candidate = joins[j].charAt(i) == '0';
                int otherI = i;
                int otherJ = j;
                if (!candidate) {
                    Checks.dueThrow(Checks.STATE, () -> x.join(otherI, otherJ));
                }
            }
        }
        // (2, 1) needs both (1, 1) and (2, 0), (1, 2) both (0, 2) and (1, 1)
        due(2, Checks.loaded("join 1 0; join 0 1; join 1 1;").refusal(2, 1));
        due(2, Checks.loaded("join 1 0; join 2 0; join 0 1;").refusal(2, 1));
        due(2, Checks.loaded("join 1 0; join 0 1; join 1 1;").refusal(1, 2));
        due(2, Checks.loaded("join 1 0; join 0 1; join 0 2;").refusal(1, 2));
        due(0, Checks.loaded("join 1 0; join 0 1; join 0 2; join 1 1;").refusal(1, 2));
    }

    private static void canLeave() {
        Checks.sentence(0, "A monomial can leave it if it is in it, is not (0, 0), and neither (i + 1, j) nor (i, j + 1) is in it.");
        int[][] corners = {{3, 0}, {2, 1}, {1, 2}, {0, 3}};
        BorderBasis x = triangle();
        for (int i = 0; i < MOST; i++) {
            for (int j = 0; j < MOST; j++) {
                if (i + j != 3) {
                    int otherI = i;
                    int otherJ = j;
                    Checks.dueThrow(Checks.STATE, () -> x.leave(otherI, otherJ));
                }
            }
        }
        due(4, x.count(7));
        for (int k = 0; k < corners.length; k++) {
            BorderBasis y = triangle();
            due(6 + k, y.leave(corners[k][0], corners[k][1]));
            due(9, y.count(1));
            due(3, y.count(7));
            due(0, y.refusal(corners[k][0], corners[k][1]));
        }
        Checks.dueThrow(Checks.STATE, () -> new BorderBasis().leave(0, 0));
        Checks.dueThrow(Checks.STATE, () -> new BorderBasis().leave(1, 0));
        Checks.dueThrow(Checks.STATE, () -> row(3).leave(1, 0));
        Checks.dueThrow(Checks.STATE, () -> column(3).leave(0, 1));
        due(11, row(12).leave(11, 0));
        due(11, column(12).leave(0, 11));
        // only (i + 1, j), only (i, j + 1)
        Checks.dueThrow(Checks.STATE, () -> Checks.loaded("join 1 0; join 0 1; join 1 1;").leave(0, 1));
        Checks.dueThrow(Checks.STATE, () -> Checks.loaded("join 1 0; join 0 1; join 1 1;").leave(1, 0));
    }

    private static void borders() {
        Checks.sentence(0, "The border is the set of all monomials that are not in the order ideal and are x times or y times one of it; its monomials (i and j from 0 to 12)");
        BorderBasis x = row(12);
        due(13, x.count(2));
        for (int i = 0; i < 11; i++) {
            due(100 + i, x.place(i, 1));
        }
        due(111, x.place(12, 0));
        due(112, x.place(11, 1));
        due(NONE, x.place(12, 1));
        due(NONE, x.place(13, 0));
        due(NONE, x.place(0, 2));
        BorderBasis y = column(12);
        due(13, y.count(2));
        for (int j = 0; j < 12; j++) {
            due(100 + j, y.place(1, j));
        }
        due(112, y.place(0, 12));
        due(NONE, y.place(1, 12));
        due(NONE, y.place(0, 13));
        due(NONE, y.place(2, 0));
        // (2, 1) and (1, 2) are x times or y times one of it, (2, 2) is neither
        BorderBasis square = Checks.loaded("join 1 0; join 0 1; join 1 1;");
        due(4, square.count(2));
        due(102, square.place(2, 1));
        due(103, square.place(1, 2));
        due(NONE, square.place(2, 2));
    }

    private static void rulesAtFirst() {
        Checks.sentence(0, "a coefficient for each monomial of the order ideal (all 0 at first)");
        BorderBasis[] all = {new BorderBasis(), row(12), column(12), triangle()};
        for (BorderBasis x : all) {
            due(0, x.count(3));
            for (int border = 0; border < x.count(2); border++) {
                for (int monomial = 0; monomial < x.count(1); monomial++) {
                    due(0, x.rule(border, monomial));
                }
            }
        }
    }

    private static void lostRules() {
        Checks.sentence(0, "rules of monomials that are no longer in the border are lost");
        Checks.sentence(0, "new border monomials get rules with all coefficients 0");
        BorderBasis x = new BorderBasis();
        x.setRule(0, 0, 5);
        x.setRule(1, 0, 6);
        x.join(1, 0);
        due(1, x.count(3));
        due(6, x.rule(x.place(0, 1) - 100, 0));
        due(1, x.leave(1, 0));
        // x is a new border monomial now
        due(0, x.rule(0, 0));
        due(6, x.rule(1, 0));
        BorderBasis y = row(12);
        y.setRule(y.place(12, 0) - 100, 3, 9);
        y.setRule(y.place(11, 1) - 100, 3, 8);
        y.setRule(y.place(10, 1) - 100, 3, 7);
        due(11, y.leave(11, 0));
        due(1, y.count(3));
        due(7, y.rule(y.place(10, 1) - 100, 3));
        due(11, y.join(11, 0));
        due(1, y.count(3));
        due(7, y.rule(y.place(10, 1) - 100, 3));
    }

    private static void keptRules() {
        Checks.sentence(0, "in the rules that stay the coefficient of a monomial that joins is 0, that of a monomial that leaves is lost");
        BorderBasis x = Checks.loaded("join 1 0; join 2 0; rule 0 1 is 1 0 0, 2 1 0, 3 2 0; rule 3 0 is 4 0 0, 5 1 0, 6 2 0;");
        // y joins between x and xx
        due(2, x.join(0, 1));
        dueRule(x, 3, 0, 4, 5, 0, 6);
        due(2, x.leave(0, 1));
        dueRule(x, 3, 0, 4, 5, 6);
        dueRule(x, 0, 1, 0, 0, 0);
        due(2, x.leave(2, 0));
        due(2, x.join(2, 0));
        dueRule(x, 3, 0, 0, 0, 0);
        BorderBasis y = Checks.loaded("join 1 0; rule 0 1 is 1 0 0, 2 1 0;");
        due(1, y.leave(1, 0));
        dueRule(y, 0, 1, 1);
        due(1, y.join(1, 0));
        dueRule(y, 0, 1, 1, 0);
        BorderBasis full = row(11);
        for (int k = 0; k < 11; k++) {
            full.setRule(0, k, k + 1);
        }
        due(11, full.join(11, 0));
        dueRule(full, 0, 1, 1, 2, 3, 4, 5, 6, 7, 8, 9, 10, 11, 0);
        due(0, full.setRule(0, 11, 12));
        due(11, full.leave(11, 0));
        due(11, full.join(11, 0));
        dueRule(full, 0, 1, 1, 2, 3, 4, 5, 6, 7, 8, 9, 10, 11, 0);
    }

    private static void dueRule(BorderBasis x, int i, int j, int... coefficients) {
        due(coefficients.length, x.count(1));
        for (int k = 0; k < coefficients.length; k++) {
            due(coefficients[k], x.rule(x.place(i, j) - 100, k));
        }
    }

    private static void counts() {
        Checks.sentence(9, "what: 0: P; 1: monomials of the order ideal; 2: border monomials; 3: coefficients of all rules that are not 0; 4: points; 5: changes that can be undone");
        BorderBasis x = row(12);
        dueCounts(x, 31, 12, 13, 0, 0, 0, 1, 1);
        int set = 0;
        for (int border = 0; border < 13; border++) {
            for (int monomial = 0; monomial < 12; monomial++) {
                due(0, x.setRule(border, monomial, 30 - set % 29));
                set++;
            }
        }
        due(156, x.count(3));
        due(30, x.setRule(0, 0, 0));
        due(155, x.count(3));
        for (int k = 0; k < 12; k++) {
            due(k, x.count(4));
            x.addPoint(0, k);
        }
        dueCounts(x, 31, 12, 13, 155, 12, 8, 1, 1);
        Checks.sentence(9, "if what is out of range");
        for (int what : Samples.outside(8)) {
            Checks.dueThrow(Checks.ARGUMENT, () -> x.count(what));
        }
    }

    private static void candidates() {
        Checks.sentence(9, "6: monomials (i and j 0 to 11) that can join (also if there are 12 monomials)");
        due(2, new BorderBasis().count(6));
        for (int size = 2; size < 12; size++) {
            due(2, row(size).count(6));
            due(2, column(size).count(6));
        }
        // (12, 0) and (0, 12) are outside of 0 to 11
        due(1, row(12).count(6));
        due(1, column(12).count(6));
        due(5, triangle().count(6));
        BorderBasis x = triangle();
        x.join(4, 0);
        x.join(0, 4);
        due(12, x.count(1));
        // (5, 0), (3, 1), (2, 2), (1, 3), (0, 5)
        due(5, x.count(6));
        due(3, x.refusal(5, 0));
        due(2, Checks.loaded("join 1 0; join 0 1; join 1 1;").count(6));
    }

    private static void corners() {
        Checks.sentence(9, "7: monomials that can leave");
        due(0, new BorderBasis().count(7));
        for (int size = 2; size <= 12; size++) {
            due(1, row(size).count(7));
            due(1, column(size).count(7));
        }
        due(4, triangle().count(7));
        due(1, Checks.loaded("join 1 0; join 0 1; join 1 1;").count(7));
        due(2, Checks.loaded("join 1 0; join 0 1;").count(7));
    }

    private static void refusals() {
        Checks.sentence(11, "Returns 0 if it can; 1 if it is in it; 2 if a divisor is missing; 3 if there are 12 monomials; of several the least above 0.");
        BorderBasis x = row(11);
        due(1, x.refusal(0, 0));
        due(1, x.refusal(10, 0));
        due(0, x.refusal(11, 0));
        due(0, x.refusal(0, 1));
        due(2, x.refusal(1, 1));
        due(2, x.refusal(0, 2));
        due(2, x.refusal(11, 11));
        x.join(11, 0);
        // in it and 12, a divisor missing and 12, 12 alone
        due(1, x.refusal(11, 0));
        due(2, x.refusal(1, 1));
        due(2, x.refusal(11, 1));
        due(2, x.refusal(0, 11));
        due(3, x.refusal(0, 1));
        BorderBasis y = column(12);
        due(1, y.refusal(0, 11));
        due(3, y.refusal(1, 0));
        due(2, y.refusal(1, 1));
        due(2, y.refusal(11, 0));
        Checks.sentence(11, "- i: 0 to 11");
        Checks.sentence(11, "- j: 0 to 11");
        Checks.sentence(11, "if i or j is out of range");
        for (int number : Samples.outside(12)) {
            Checks.dueThrow(Checks.ARGUMENT, () -> x.refusal(number, 0));
            Checks.dueThrow(Checks.ARGUMENT, () -> x.refusal(0, number));
            Checks.dueThrow(Checks.ARGUMENT, () -> new BorderBasis().refusal(number, number));
        }
    }

    private static void joins() {
        Checks.sentence(12, "Returns its number.");
        BorderBasis x = new BorderBasis();
        int[][] joined = {{0, 1, 1}, {0, 2, 2}, {1, 0, 1}, {0, 3, 4}, {1, 1, 3}, {2, 0, 3}, {0, 4, 7}, {1, 2, 6}};
        for (int[] m : joined) {
            due(m[2], x.join(m[0], m[1]));
            due(m[2], x.place(m[0], m[1]));
        }
        due(11, row(11).join(11, 0));
        due(11, column(11).join(0, 11));
        due(2, row(11).join(0, 1));
        Checks.sentence(12, "- i: 0 to 11");
        Checks.sentence(12, "- j: 0 to 11");
        Checks.sentence(12, "if i or j is out of range");
        for (int number : Samples.outside(12)) {
            Checks.dueThrow(Checks.ARGUMENT, () -> x.join(number, 0));
            Checks.dueThrow(Checks.ARGUMENT, () -> x.join(0, number));
        }
        Checks.sentence(12, "if it cannot join, or there are 12 monomials");
        Checks.dueThrow(Checks.STATE, () -> x.join(0, 0));
        Checks.dueThrow(Checks.STATE, () -> x.join(0, 4));
        Checks.dueThrow(Checks.STATE, () -> x.join(3, 1));
        Checks.dueThrow(Checks.STATE, () -> x.join(11, 11));
        Checks.dueThrow(Checks.STATE, () -> row(12).join(0, 1));
        Checks.dueThrow(Checks.STATE, () -> column(12).join(1, 0));
    }

    private static void leaves() {
        Checks.sentence(13, "Returns the number that it had.");
        due(1, row(2).leave(1, 0));
        due(1, column(2).leave(0, 1));
        BorderBasis x = Checks.loaded("join 1 0; join 0 1; join 2 0;");
        due(2, x.leave(0, 1));
        due(2, x.leave(2, 0));
        due(1, x.leave(1, 0));
        Checks.sentence(13, "- i: 0 to 11");
        Checks.sentence(13, "- j: 0 to 11");
        Checks.sentence(13, "if i or j is out of range");
        for (int number : Samples.outside(12)) {
            Checks.dueThrow(Checks.ARGUMENT, () -> row(12).leave(number, 0));
            Checks.dueThrow(Checks.ARGUMENT, () -> x.leave(0, number));
        }
        Checks.sentence(13, "if it cannot leave");
        Checks.dueThrow(Checks.STATE, () -> x.leave(0, 0));
        Checks.dueThrow(Checks.STATE, () -> x.leave(1, 0));
        Checks.dueThrow(Checks.STATE, () -> x.leave(11, 11));
        Checks.dueThrow(Checks.STATE, () -> row(12).leave(10, 0));
    }

    private static void monomials() {
        Checks.sentence(14, "- index: a monomial of the order ideal");
        Checks.sentence(14, "- what: 0: i; 1: j");
        Checks.sentence(14, "if there is no such monomial");
        Checks.sentence(14, "if what is out of range");
        for (int size = 1; size <= 12; size++) {
            BorderBasis x = column(size);
            due(0, x.monomial(size - 1, 0));
            due(size - 1, x.monomial(size - 1, 1));
            for (int index : Samples.outside(size)) {
                Checks.dueThrow(Checks.INDEX, () -> x.monomial(index, 1));
                Checks.dueThrow(Checks.INDEX, () -> x.monomial(index, 2));
            }
            for (int what : Samples.outside(2)) {
                Checks.dueThrow(Checks.ARGUMENT, () -> x.monomial(0, what));
            }
        }
        // what has left is no monomial any more
        BorderBasis x = row(12);
        x.leave(11, 0);
        due(10, x.monomial(10, 0));
        Checks.dueThrow(Checks.INDEX, () -> x.monomial(11, 0));
        x.undo();
        due(11, x.monomial(11, 0));
    }

    private static void borderIndex() {
        Checks.sentence(15, "- index: a border monomial");
        Checks.sentence(15, "- what: 0: i; 1: j");
        Checks.sentence(15, "if there is no such border monomial");
        Checks.sentence(15, "if what is out of range");
        for (int size = 1; size <= 12; size++) {
            BorderBasis x = column(size);
            due(0, x.border(size, 0));
            due(size, x.border(size, 1));
            due(1, x.border(0, 0));
            due(0, x.border(0, 1));
            for (int index : Samples.outside(size + 1)) {
                Checks.dueThrow(Checks.INDEX, () -> x.border(index, 0));
                Checks.dueThrow(Checks.INDEX, () -> x.border(index, 2));
            }
            for (int what : Samples.outside(2)) {
                Checks.dueThrow(Checks.ARGUMENT, () -> x.border(size(x), what));
            }
        }
    }

    private static int size(BorderBasis x) {
        return x.count(1);
    }

    private static void places() {
        Checks.sentence(16, "- i: any number");
        Checks.sentence(16, "- j: any number");
        int[] far = {Integer.MIN_VALUE, Integer.MIN_VALUE + 1, -2, -1, 13, 14, 100, 1 << 16, 1 << 30, Integer.MAX_VALUE - 1,
            Integer.MAX_VALUE};
        BorderBasis[] all = {new BorderBasis(), row(12), column(12), triangle()};
        for (BorderBasis x : all) {
            for (int one : far) {
                for (int other = -1; other <= 13; other++) {
                    due(NONE, x.place(one, other));
                    due(NONE, x.place(other, one));
                }
                for (int other : far) {
                    due(NONE, x.place(one, other));
                }
            }
        }
        Checks.sentence(16, "Returns the number of the monomial in the order ideal; 100 plus its number if it is a border monomial; NONE if it is neither.");
        BorderBasis x = row(12);
        for (int i = 0; i <= 13; i++) {
            due(i < 12 ? i : i == 12 ? 111 : NONE, x.place(i, 0));
            due(i < 11 ? 100 + i : i == 11 ? 112 : NONE, x.place(i, 1));
            due(NONE, x.place(i, 2));
        }
    }

    private static void setRules() {
        Checks.sentence(17, "- value: 0 to P - 1");
        Checks.sentence(17, "Throws IllegalArgumentException if value is out of range");
        int[] primes = {13, 31, 97};
        for (int prime : primes) {
            BorderBasis x = Checks.loaded("prime " + prime + ";" + Samples.row(12));
            due(0, x.setRule(12, 11, prime - 1));
            due(prime - 1, x.setRule(12, 11, 0));
            due(0, x.setRule(12, 11, 1));
            for (int value : Samples.outside(prime)) {
                Checks.dueThrow(Checks.ARGUMENT, () -> x.setRule(12, 11, value));
            }
            due(1, x.rule(12, 11));
            due(3, x.changes(2));
        }
        Checks.sentence(17, "- border: a border monomial");
        Checks.sentence(17, "- monomial: a monomial of the order ideal");
        Checks.sentence(17, "if there is no such border monomial or monomial");
        for (int size = 1; size <= 12; size++) {
            BorderBasis x = row(size);
            int last = size - 1;
            for (int border : Samples.outside(size + 1)) {
                Checks.dueThrow(Checks.INDEX, () -> x.setRule(border, last, 0));
                Checks.dueThrow(Checks.INDEX, () -> x.setRule(border, last, -1));
            }
            for (int monomial : Samples.outside(size)) {
                Checks.dueThrow(Checks.INDEX, () -> x.setRule(0, monomial, 0));
                Checks.dueThrow(Checks.INDEX, () -> x.setRule(1, monomial, 31));
            }
            due(0, x.setRule(size, last, 30));
            due(1, x.count(3));
        }
        Checks.sentence(17, "Returns the previous coefficient.");
        BorderBasis x = new BorderBasis();
        due(0, x.setRule(0, 0, 30));
        due(30, x.setRule(0, 0, 30));
        due(30, x.setRule(0, 0, 0));
        due(0, x.setRule(0, 0, 0));
    }

    private static void ruleIndex() {
        Checks.sentence(18, "- border: a border monomial");
        Checks.sentence(18, "- monomial: a monomial of the order ideal");
        Checks.sentence(18, "if there is no such border monomial or monomial");
        for (int size = 1; size <= 12; size++) {
            BorderBasis x = row(size);
            int last = size - 1;
            x.setRule(size, last, 17);
            due(17, x.rule(size, last));
            for (int border : Samples.outside(size + 1)) {
                Checks.dueThrow(Checks.INDEX, () -> x.rule(border, last));
            }
            for (int monomial : Samples.outside(size)) {
                Checks.dueThrow(Checks.INDEX, () -> x.rule(0, monomial));
                Checks.dueThrow(Checks.INDEX, () -> x.rule(size(x), monomial));
            }
        }
        // what is behind the last row or monomial now had a coefficient before
        BorderBasis x = row(12);
        x.setRule(12, 11, 5);
        x.leave(11, 0);
        Checks.dueThrow(Checks.INDEX, () -> x.rule(12, 0));
        Checks.dueThrow(Checks.INDEX, () -> x.rule(0, 11));
        due(0, x.rule(11, 10));
    }

    private static void values() {
        Checks.sentence(19, "Returns the value of its rule at the point (a, b).");
        Checks.sentence(0, "(The value of the power 0 is 1.)");
        BorderBasis one = Checks.loaded("rule 1 0 is 5 0 0; rule 0 1 is 30 0 0;");
        due(26, one.value(0, 0, 0));
        due(1, one.value(1, 0, 0));
        due(25, one.value(0, 30, 30));
        due(0, one.value(1, 30, 30));
        Checks.sentence(19, "- a: 0 to P - 1");
        Checks.sentence(19, "- b: 0 to P - 1");
        Checks.sentence(19, "Throws IllegalArgumentException if a or b is out of range");
        int[] primes = {13, 31, 97};
        for (int prime : primes) {
            BorderBasis x = Checks.loaded("prime " + prime + ";" + Samples.row(12) + "rule 12 0 is - 1 0 0, -1 11 0;");
            // P - 1 is -1: its 12th power is 1, its 11th is -1
            due(1, x.value(11, prime - 1, prime - 1));
            due(1, x.value(11, 0, 0));
            due(3, x.value(11, 1, 0));
            due(1, x.value(12, prime - 1, prime - 1));
            for (int number : Samples.outside(prime)) {
                Checks.dueThrow(Checks.ARGUMENT, () -> x.value(11, number, 0));
                Checks.dueThrow(Checks.ARGUMENT, () -> x.value(11, 0, number));
            }
        }
        Checks.sentence(19, "if there is no such border monomial");
        for (int size = 1; size <= 12; size++) {
            BorderBasis x = row(size);
            for (int border : Samples.outside(size + 1)) {
                Checks.dueThrow(Checks.INDEX, () -> x.value(border, 0, 0));
                Checks.dueThrow(Checks.INDEX, () -> x.value(border, 31, -1));
            }
            // y, then (size - 1, 1)
            due(size == 1 ? 30 : 0, x.value(size, 0, 30));
        }
    }

    /** All coefficients and coordinates as great as they can be. */
    private static void greatValues() {
        Checks.sentence(19, "Returns the value of its rule at the point (a, b).");
        BorderBasis x = Checks.loaded("prime 97;" + Samples.row(12));
        for (int k = 0; k < 12; k++) {
            x.setRule(11, k, 96);
        }
        int sum = 0;
        for (int k = 0; k <= 12; k++) {
            sum += Samples.power(95, k, 97);
        }
        due(sum % 97, x.value(11, 95, 96));
        // 1 - 1 + 1 .. of 13 terms
        due(1, x.value(11, 96, 95));
        due(13, x.value(11, 1, 0));
    }

    public static void main(String[] args) {
        atFirst();
        twoObjects();
        primeOfCount();
        order();
        sizes();
        canJoin();
        canLeave();
        borders();
        rulesAtFirst();
        lostRules();
        keptRules();
        counts();
        candidates();
        corners();
        refusals();
        joins();
        leaves();
        monomials();
        borderIndex();
        places();
        setRules();
        ruleIndex();
        values();
        greatValues();
        Checks.end();
    }
}
