import java.util.ArrayList;
import java.util.List;
import java.util.function.Consumer;

/**
 * Exceptions: which of several comes first, and that a method that throws changes nothing. For the
 * latter each refused call is made on an object in some state, and all that can be asked of it then
 * is compared with the answers of a twin on which the call was not made.
 */
public final class RefusalTest {
    private static final String ARGUMENT = Checks.ARGUMENT;
    private static final String INDEX = Checks.INDEX;
    private static final String STATE = Checks.STATE;

    /** A call that is refused. */
    private record Refused(String name, String exception, Consumer<BorderBasis> call) {
    }

    /** How the state of an object comes about. */
    private record Scene(String name, Consumer<BorderBasis> calls) {
        BorderBasis make() {
            BorderBasis x = new BorderBasis();
            calls.accept(x);
            return x;
        }
    }

    private RefusalTest() {
    }

    private static void add(List<Refused> all, String name, String exception, Consumer<BorderBasis> call) {
        all.add(new Refused(name, exception, call));
    }

    /** The calls that are refused in the state of an object, by its numbers. */
    private static List<Refused> refusedCalls(BorderBasis x) {
        List<Refused> all = new ArrayList<>();
        addRanges(all);
        addMonomials(all, x);
        addIndices(all, x.count(1), x.count(2));
        addCoordinates(all, x.count(0), x.count(2));
        addPoints(all, x);
        return all;
    }

    private static void addRanges(List<Refused> all) {
        for (int number : new int[] {-1, 12, Integer.MIN_VALUE, Integer.MAX_VALUE}) {
            add(all, "result " + number, INDEX, x -> x.result(number));
            add(all, "refusal i " + number, ARGUMENT, x -> x.refusal(number, 0));
            add(all, "refusal j " + number, ARGUMENT, x -> x.refusal(0, number));
            add(all, "join i " + number, ARGUMENT, x -> x.join(number, 0));
            add(all, "join j " + number, ARGUMENT, x -> x.join(0, number));
            add(all, "leave i " + number, ARGUMENT, x -> x.leave(number, 0));
            add(all, "leave j " + number, ARGUMENT, x -> x.leave(0, number));
        }
        for (int number : new int[] {-1, 23, Integer.MIN_VALUE, Integer.MAX_VALUE}) {
            add(all, "truncateText " + (number == 23 ? 901 : number), ARGUMENT, x -> x.truncateText(number == 23 ? 901 : number));
            add(all, "count " + number, ARGUMENT, x -> x.count(number));
            add(all, "changes " + number, ARGUMENT, x -> x.changes(number));
            add(all, "clash " + number, ARGUMENT, x -> x.clash(number));
            add(all, "trace i " + number, ARGUMENT, x -> x.trace(number, 0));
            add(all, "trace j " + number, ARGUMENT, x -> x.trace(0, number));
            add(all, "normal i " + number, ARGUMENT, x -> x.normal(number, 0, 0));
            add(all, "normal j " + number, ARGUMENT, x -> x.normal(0, number, 0));
            add(all, "determinant " + number, ARGUMENT, x -> x.determinant(number));
            add(all, "kernel " + number, ARGUMENT, x -> x.kernel(number, 0));
            add(all, "zeros " + number, ARGUMENT, x -> x.zeros(number));
            add(all, "save " + number, ARGUMENT, x -> x.save(number));
            add(all, "restore " + number, ARGUMENT, x -> x.restore(number));
        }
    }

    private static void addMonomials(List<Refused> all, BorderBasis x) {
        for (int i = 0; i < 12; i += i == 3 ? 7 : 1) {
            for (int j = 0; j < 12; j += j == 3 ? 7 : 1) {
                int otherI = i;
                int otherJ = j;
                int place = x.place(i, j);
                if (x.refusal(i, j) != 0) {
                    add(all, "join " + i + " " + j, STATE, y -> y.join(otherI, otherJ));
                }
                boolean covered = isInIdeal(x.place(i + 1, j)) || isInIdeal(x.place(i, j + 1));
                if (!isInIdeal(place) || covered || i + j == 0) {
                    add(all, "leave " + i + " " + j, STATE, y -> y.leave(otherI, otherJ));
                }
            }
        }
    }

    private static boolean isInIdeal(int place) {
        return place >= 0 && place < 100;
    }

    /** A number of monomials or border monomials that there is not, alone and ahead of a wrong argument. */
    private static void addIndices(List<Refused> all, int size, int borders) {
        for (int number : new int[] {-1, size, Integer.MAX_VALUE}) {
            add(all, "monomial " + number, INDEX, x -> x.monomial(number, 0));
            add(all, "monomial and what " + number, INDEX, x -> x.monomial(number, 2));
            add(all, "setRule monomial " + number, INDEX, x -> x.setRule(0, number, 1));
            add(all, "setRule monomial and value " + number, INDEX, x -> x.setRule(0, number, -1));
            add(all, "rule monomial " + number, INDEX, x -> x.rule(0, number));
            add(all, "table row " + number, INDEX, x -> x.table(0, number, 0));
            add(all, "table column " + number, INDEX, x -> x.table(1, 0, number));
            add(all, "table row and variable " + number, INDEX, x -> x.table(2, number, 0));
            add(all, "table column and variable " + number, INDEX, x -> x.table(-1, 0, number));
            add(all, "normal " + number, INDEX, x -> x.normal(0, 0, number));
            add(all, "normal i and index " + number, INDEX, x -> x.normal(23, 0, number));
            add(all, "normal j and index " + number, INDEX, x -> x.normal(0, -1, number));
        }
        for (int number : new int[] {-1, borders, Integer.MAX_VALUE}) {
            add(all, "border " + number, INDEX, x -> x.border(number, 0));
            add(all, "border and what " + number, INDEX, x -> x.border(number, -1));
            add(all, "setRule " + number, INDEX, x -> x.setRule(number, 0, 1));
            add(all, "setRule border and value " + number, INDEX, x -> x.setRule(number, 0, 97));
            add(all, "rule " + number, INDEX, x -> x.rule(number, 0));
            add(all, "value " + number, INDEX, x -> x.value(number, 0, 0));
            add(all, "value border and a " + number, INDEX, x -> x.value(number, -1, 0));
            add(all, "value border and b " + number, INDEX, x -> x.value(number, 0, 97));
        }
        for (int what : new int[] {-1, 2}) {
            add(all, "monomial what " + what, ARGUMENT, x -> x.monomial(size - 1, what));
            add(all, "border what " + what, ARGUMENT, x -> x.border(borders - 1, what));
            add(all, "table variable " + what, ARGUMENT, x -> x.table(what, size - 1, size - 1));
        }
    }

    private static void addCoordinates(List<Refused> all, int prime, int borders) {
        for (int number : new int[] {-1, prime, Integer.MAX_VALUE}) {
            add(all, "setRule value " + number, ARGUMENT, x -> x.setRule(borders - 1, 0, number));
            add(all, "value a " + number, ARGUMENT, x -> x.value(0, number, 0));
            add(all, "value b " + number, ARGUMENT, x -> x.value(0, 0, number));
            add(all, "kernel value " + number, ARGUMENT, x -> x.kernel(0, number));
            add(all, "multiplicity a " + number, ARGUMENT, x -> x.multiplicity(number, 0));
            add(all, "multiplicity b " + number, ARGUMENT, x -> x.multiplicity(0, number));
            // with 12 points, too, this is the exception
            add(all, "addPoint a " + number, ARGUMENT, x -> x.addPoint(number, 0));
            add(all, "addPoint b " + number, ARGUMENT, x -> x.addPoint(0, number));
        }
    }

    private static void addPoints(List<Refused> all, BorderBasis x) {
        int points = x.count(4);
        int zeros = x.zeros(0);
        for (int number : new int[] {-1, points, Integer.MAX_VALUE}) {
            add(all, "removePoint " + number, INDEX, y -> y.removePoint(number));
            add(all, "point " + number, INDEX, y -> y.point(number, 0));
            add(all, "point and what " + number, INDEX, y -> y.point(number, 3));
        }
        for (int number : new int[] {-1, zeros, Integer.MAX_VALUE}) {
            add(all, "zero " + number, INDEX, y -> y.zero(number, 0));
            add(all, "zero and what " + number, INDEX, y -> y.zero(number, -1));
        }
        for (int what : new int[] {-1, 3}) {
            if (zeros > 0) {
                add(all, "zero what " + what, ARGUMENT, y -> y.zero(zeros - 1, what));
            }
            if (points > 0) {
                add(all, "point what " + what, ARGUMENT, y -> y.point(points - 1, what));
            }
        }
        for (int k = 0; k < points; k++) {
            int a = x.point(k, 0);
            int b = x.point(k, 1);
            add(all, "addPoint again " + k, STATE, y -> y.addPoint(a, b));
        }
        if (points == 12) {
            add(all, "addPoint 13", STATE, y -> y.addPoint(12, 11));
        }
        if (points == 0) {
            add(all, "fit", STATE, BorderBasis::fit);
        }
    }

    private static void fresh(BorderBasis x) {
        x.appendText(0x31203020);
    }

    /** 12 monomials, 12 points, 900 bytes, 8 changes that can be undone, both slots. */
    private static void full(BorderBasis x) {
        Checks.load(x, "prime 13;" + Samples.row(12) + "rule 12 0 is 1 0 0; rule 0 1 is 3 0 0;");
        x.save(0);
        for (int k = 0; k < 12; k++) {
            x.addPoint(k, 12 - k);
        }
        x.setRule(0, 11, 7);
        x.setRule(12, 0, 12);
        x.save(1);
        Checks.reduce(x, "5 11 0, 6 0 0");
        Checks.reduce(x, "5 11 0,");
        Checks.send(x, "join 0 1;" + " ".repeat(891));
    }

    /** Tables that clash, a failed setup, a polynomial in the buffer, one slot. */
    private static void middle(BorderBasis x) {
        Checks.load(x, Samples.CLASHING);
        x.addPoint(3, 4);
        x.addPoint(30, 0);
        x.join(0, 1);
        x.save(1);
        x.leave(0, 1);
        Checks.load(x, "join 0 1; join 0 1;");
        Checks.send(x, "4 1 1, 3 0 0");
    }

    /** As many zeros as points; what is behind the last row of everything was used before. */
    private static void shrunk(BorderBasis x) {
        Checks.load(x, "prime 97;" + Samples.column(12) + Samples.points(12));
        x.fit();
        x.zeros(2);
        x.save(0);
        for (int k = 0; k < 10; k++) {
            x.removePoint(k % 2);
        }
        x.fit();
        x.undo();
        x.fit();
        Checks.send(x, "prime 96;");
    }

    private static List<Scene> scenes() {
        return List.of(new Scene("fresh", RefusalTest::fresh), new Scene("full", RefusalTest::full),
            new Scene("middle", RefusalTest::middle), new Scene("shrunk", RefusalTest::shrunk));
    }

    private static void makeRefused(BorderBasis x, Refused refused) {
        Checks.dueThrow(refused.exception, () -> {
            refused.call.accept(x);
            return null;
        });
    }

    /** All that is kept in an object: what it answers, its text as a setup or a polynomial, its changes, its slots. */
    private static String afterwards(BorderBasis x, boolean asSetup) {
        StringBuilder text = new StringBuilder(Snapshot.of(x));
        text.append(asSetup ? x.load() : x.reduce()).append('\n').append(Snapshot.of(x));
        for (int k = 0; k < 9; k++) {
            text.append("undo ").append(x.undo()).append('\n').append(Snapshot.ofState(x));
        }
        for (int slot = 0; slot < 2; slot++) {
            try {
                x.restore(slot);
                text.append("slot ").append(slot).append('\n').append(Snapshot.of(x));
            } catch (IllegalStateException e) {
                text.append("no slot ").append(slot).append('\n');
            }
        }
        return text.toString();
    }

    private static void changesNothing() {
        Checks.sentence(0, "A method that throws an exception changes nothing.");
        for (Scene scene : scenes()) {
            String asSetup = afterwards(scene.make(), true);
            String asPolynomial = afterwards(scene.make(), false);
            for (Refused refused : refusedCalls(scene.make())) {
                BorderBasis x = scene.make();
                makeRefused(x, refused);
                dueSame(scene, refused, asSetup, afterwards(x, true));
                BorderBasis y = scene.make();
                makeRefused(y, refused);
                makeRefused(y, refused);
                dueSame(scene, refused, asPolynomial, afterwards(y, false));
            }
        }
    }

    private static void dueSame(Scene scene, Refused refused, String want, String got) {
        Checks.due(scene.name + ", " + refused.name + ": the same",
            scene.name + ", " + refused.name + (want.equals(got) ? ": the same" : ": another"));
    }

    /** Refused calls one behind the other, all on one object. */
    private static void manyRefused() {
        Checks.sentence(0, "A method that throws an exception changes nothing.");
        for (Scene scene : scenes()) {
            BorderBasis x = scene.make();
            for (Refused refused : refusedCalls(scene.make())) {
                makeRefused(x, refused);
            }
            Checks.due(afterwards(scene.make(), true), afterwards(x, true));
        }
    }

    private static void fullBuffer() {
        Checks.sentence(0, "A method that throws an exception changes nothing.");
        for (int length = 897; length <= 900; length++) {
            BorderBasis x = new BorderBasis();
            Checks.send(x, "join 1 0;" + " ".repeat(length - 9));
            Checks.dueThrow(STATE, () -> x.appendText(0x3B3B3B3B));
            Checks.dueThrow(STATE, () -> x.appendText(0x20202020));
            int greater = length + 1;
            Checks.dueThrow(ARGUMENT, () -> x.truncateText(greater));
            Checks.due(length, x.truncateText(length));
            Checks.due(2, x.load());
        }
    }

    private static void saveRefused() {
        Checks.sentence(37, "if slot is out of range");
        BorderBasis x = new BorderBasis();
        Checks.dueThrow(ARGUMENT, () -> {
            x.save(2);
            return null;
        });
        for (int slot = 0; slot < 2; slot++) {
            int empty = slot;
            Checks.dueThrow(STATE, () -> {
                x.restore(empty);
                return null;
            });
        }
    }

    /** One call each to which two exceptions of its list apply. */
    private static void firstOfTwo() {
        Checks.sentence(0, "If several exceptions apply, the one that comes first in the method's list of exceptions is thrown.");
        BorderBasis full = Checks.loaded(Samples.row(12) + Samples.points(12));
        Checks.dueThrow(ARGUMENT, () -> full.join(12, 0));
        Checks.dueThrow(ARGUMENT, () -> full.join(-1, 0));
        Checks.dueThrow(ARGUMENT, () -> full.join(0, 12));
        Checks.dueThrow(ARGUMENT, () -> full.leave(12, 0));
        Checks.dueThrow(ARGUMENT, () -> full.leave(0, -1));
        Checks.dueThrow(INDEX, () -> full.monomial(12, 2));
        Checks.dueThrow(INDEX, () -> full.border(13, -1));
        Checks.dueThrow(INDEX, () -> full.setRule(13, 0, 31));
        Checks.dueThrow(INDEX, () -> full.setRule(0, 12, -1));
        Checks.dueThrow(INDEX, () -> full.value(13, 31, 31));
        Checks.dueThrow(INDEX, () -> full.table(2, 12, 0));
        Checks.dueThrow(INDEX, () -> full.table(-1, 0, -1));
        Checks.dueThrow(INDEX, () -> full.normal(23, 23, 12));
        Checks.dueThrow(INDEX, () -> full.zero(1, 3));
        Checks.dueThrow(ARGUMENT, () -> full.addPoint(31, 0));
        Checks.dueThrow(ARGUMENT, () -> full.addPoint(0, -1));
        Checks.dueThrow(INDEX, () -> full.point(12, 3));
        Checks.dueThrow(ARGUMENT, () -> {
            full.restore(2);
            return null;
        });
        BorderBasis clashing = Checks.loaded(Samples.CLASHING);
        Checks.dueThrow(INDEX, () -> clashing.zero(0, 3));
        Checks.dueThrow(ARGUMENT, () -> clashing.multiplicity(31, 0));
        Checks.dueThrow(ARGUMENT, () -> clashing.zeros(3));
        Checks.dueThrow(ARGUMENT, () -> clashing.clash(5));
    }

    public static void main(String[] args) {
        changesNothing();
        manyRefused();
        fullBuffer();
        saveRefused();
        firstOfTwo();
        Checks.end();
    }
}
