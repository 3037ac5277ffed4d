/** Changes, undo and saved states: a test for each sentence of the document that names an edge; promises 10 and 36 to 38. */
public final class ChangeEdgeTest {
    private static final int NONE = BorderBasis.NONE;
    private static final int KINDS = 6;
    private static final int UNDO_LIMIT = 8;

    private ChangeEdgeTest() {
    }

    private static void due(Object want, Object got) {
        Checks.due(want, got);
    }

    private static Object saved(BorderBasis x, int slot) {
        x.save(slot);
        return null;
    }

    private static Object restored(BorderBasis x, int slot) {
        x.restore(slot);
        return null;
    }

    private static void dueChanges(BorderBasis x, int... counts) {
        for (int kind = 0; kind < KINDS; kind++) {
            due(kind + ": " + counts[kind], kind + ": " + x.changes(kind));
        }
    }

    /** A successful call of each kind, in turn, from the state without points and with {1} alone. */
    private static void change(BorderBasis x, int number) {
        switch (number % KINDS) {
            case 0:
                x.addPoint(number % 31, number / 31 + 5);
                break;
            case 1:
                x.fit();
                break;
            case 2:
                x.join(x.place(1, 0) < 100 ? 0 : 1, x.place(1, 0) < 100 ? 1 : 0);
                break;
            case 3:
                x.setRule(0, 0, number % 31);
                break;
            case 4:
                x.leave(x.place(1, 0) < 100 ? 1 : 0, x.place(1, 0) < 100 ? 0 : 1);
                break;
            default:
                x.removePoint(0);
                break;
        }
    }

    private static void nothingDiffers() {
        Checks.sentence(0, "are changes if they throw nothing, also if nothing differs by them");
        BorderBasis x = new BorderBasis();
        due(0, x.setRule(0, 0, 0));
        due(1, x.count(5));
        due(1, x.changes(2));
        x.addPoint(0, 0);
        due(1, x.fit());
        due(1, x.fit());
        due(4, x.count(5));
        dueChanges(x, 0, 0, 1, 1, 0, 2);
        due(3, x.undo());
        due(2, x.undo());
        due(1, x.undo());
        due(0, x.count(4));
        due(0, x.undo());
        due(NONE, x.undo());
    }

    private static void noChanges() {
        Checks.sentence(0, "are changes if they throw nothing");
        BorderBasis x = Checks.loaded("join 1 0; point 1 1;");
        Checks.dueThrow(Checks.STATE, () -> x.join(1, 0));
        Checks.dueThrow(Checks.ARGUMENT, () -> x.join(12, 0));
        Checks.dueThrow(Checks.STATE, () -> x.leave(0, 0));
        Checks.dueThrow(Checks.ARGUMENT, () -> x.leave(0, 12));
        Checks.dueThrow(Checks.ARGUMENT, () -> x.setRule(0, 0, 31));
        Checks.dueThrow(Checks.INDEX, () -> x.setRule(3, 0, 0));
        Checks.dueThrow(Checks.STATE, () -> x.addPoint(1, 1));
        Checks.dueThrow(Checks.ARGUMENT, () -> x.addPoint(31, 1));
        Checks.dueThrow(Checks.INDEX, () -> x.removePoint(1));
        BorderBasis y = new BorderBasis();
        Checks.dueThrow(Checks.STATE, () -> y.fit());
        dueChanges(y, 0, 0, 0, 0, 0, 0);
        due(NONE, y.undo());
        x.misfits();
        x.save(0);
        Checks.reduce(x, "1 0 0");
        x.truncateText(0);
        x.appendText(0x20202020);
        x.zeros(2);
        dueChanges(x, 0, 0, 0, 0, 0, 0);
        due(0, x.count(5));
        due(NONE, x.undo());
    }

    private static void latestEight() {
        Checks.sentence(0, "the latest 8 can be undone");
        Checks.sentence(36, "Returns the number of changes that can still be undone; NONE if there is none to undo.");
        for (int made = 0; made <= 40; made++) {
            BorderBasis x = new BorderBasis();
            String[] states = new String[made + 1];
            states[0] = Snapshot.ofState(x);
            for (int k = 0; k < made; k++) {
                due(Math.min(k, UNDO_LIMIT), x.count(5));
                change(x, k);
                states[k + 1] = Snapshot.ofState(x);
            }
            int can = Math.min(made, UNDO_LIMIT);
            for (int k = 1; k <= can; k++) {
                due(can - k, x.undo());
                due(can - k, x.count(5));
                due(states[made - k], Snapshot.ofState(x));
            }
            due(NONE, x.undo());
            due(NONE, x.undo());
            due(0, x.count(5));
            due(states[made - can], Snapshot.ofState(x));
        }
    }

    /** All ways to make some changes, undo some and make some again. */
    private static void undoneAndChanged() {
        Checks.sentence(36, "the prime, the order ideal, the rules and the points are as they were ahead of it");
        for (int first = 0; first <= 17; first++) {
            for (int undone = 0; undone <= Math.min(first, UNDO_LIMIT); undone++) {
                for (int second = 0; second <= 10; second++) {
                    dueUndone(first, undone, second);
                }
            }
        }
    }

    private static void dueUndone(int first, int undone, int second) {
        BorderBasis x = new BorderBasis();
        int[] values = new int[first + second + 1];
        int latest = 0;
        for (int k = 0; k < first; k++) {
            latest++;
            values[latest] = k + 1;
            x.setRule(0, 0, k + 1);
        }
        for (int k = 0; k < undone; k++) {
            x.undo();
            latest--;
        }
        int can = Math.min(first, UNDO_LIMIT) - undone;
        for (int k = 0; k < second; k++) {
            latest++;
            values[latest] = 30 - k;
            x.setRule(0, 0, 30 - k);
        }
        can = Math.min(can + second, UNDO_LIMIT);
        due(values[latest], x.rule(0, 0));
        for (int k = can - 1; k >= 0; k--) {
            due(k, x.undo());
            latest--;
            due(values[latest], x.rule(0, 0));
        }
        due(NONE, x.undo());
        due(values[latest], x.rule(0, 0));
        due(first + second, x.changes(2));
    }

    private static void forgottenByLoad() {
        Checks.sentence(0, "load() forgets them if it succeeds, restore() likewise.");
        for (int made = 0; made <= 9; made++) {
            BorderBasis x = new BorderBasis();
            for (int k = 0; k < made; k++) {
                change(x, k);
            }
            int can = Math.min(made, UNDO_LIMIT);
            due(NONE, Checks.load(x, "join 1 1;"));
            due(NONE, Checks.load(x, "point 1 1"));
            due(can, x.count(5));
            due(NONE, Checks.reduce(x, ""));
            due(1, Checks.reduce(x, "1 0 0"));
            due(can, x.count(5));
            due(1, Checks.load(x, ""));
            due(0, x.count(5));
            due(NONE, x.undo());
            due(0, x.count(4));
            change(x, 0);
            due(1, x.count(5));
            due(0, x.undo());
            due(NONE, x.undo());
        }
    }

    private static void forgottenByRestore() {
        Checks.sentence(38, "no change can be undone then");
        for (int made = 0; made <= 9; made++) {
            BorderBasis x = new BorderBasis();
            x.setRule(0, 0, 7);
            x.save(1);
            due(0, x.undo());
            for (int k = 0; k < made; k++) {
                change(x, k);
            }
            int can = Math.min(made, UNDO_LIMIT);
            Checks.dueThrow(Checks.STATE, () -> restored(x, 0));
            Checks.dueThrow(Checks.ARGUMENT, () -> restored(x, 2));
            due(can, x.count(5));
            x.restore(1);
            due(0, x.count(5));
            due(NONE, x.undo());
            due(7, x.rule(0, 0));
            due(0, x.count(4));
            x.setRule(0, 0, 8);
            due(0, x.undo());
            due(7, x.rule(0, 0));
        }
    }

    private static void counted() {
        Checks.sentence(0, "Counted are the successful calls of these six methods (undo() and restore() do not change these counts; load() sets them to 0 if it succeeds).");
        Checks.sentence(10, "kind: 0: join(); 1: leave(); 2: setRule(); 3: addPoint(); 4: removePoint(); 5: fit()");
        BorderBasis x = new BorderBasis();
        dueChanges(x, 0, 0, 0, 0, 0, 0);
        for (int k = 0; k < 3; k++) {
            x.addPoint(k, 0);
        }
        x.removePoint(0);
        x.fit();
        x.fit();
        x.fit();
        x.fit();
        x.join(0, 1);
        x.join(0, 2);
        for (int k = 0; k < 9; k++) {
            x.setRule(0, 0, k);
        }
        x.leave(0, 2);
        x.leave(0, 1);
        x.join(0, 1);
        x.leave(0, 1);
        x.join(0, 1);
        x.leave(0, 1);
        x.leave(1, 0);
        int[] counts = {4, 5, 9, 3, 1, 4};
        dueChanges(x, counts);
        for (int k = 0; k < 10; k++) {
            x.undo();
            dueChanges(x, counts);
        }
        x.save(0);
        x.restore(0);
        dueChanges(x, counts);
        Checks.reduce(x, "1 0 0");
        due(NONE, Checks.load(x, "?"));
        dueChanges(x, counts);
        due(1, Checks.load(x, ""));
        dueChanges(x, 0, 0, 0, 0, 0, 0);
        x.restore(0);
        dueChanges(x, 0, 0, 0, 0, 0, 0);
        Checks.sentence(10, "if kind is out of range");
        for (int kind : Samples.outside(KINDS)) {
            Checks.dueThrow(Checks.ARGUMENT, () -> x.changes(kind));
        }
    }

    private static final int STEPS = 24;

    /** Whatever replaces the state or a part of it, in some order. */
    private static void step(BorderBasis x, int number) {
        switch (number) {
            case 0, 4 -> x.join(1, 0);
            case 1 -> x.save(0);
            case 2 -> x.setRule(0, 0, 3);
            case 3, 11 -> x.leave(1, 0);
            case 5, 8, 10, 18 -> x.undo();
            case 6 -> x.restore(0);
            case 7 -> x.join(2, 0);
            case 9 -> x.setRule(1, 0, 3);
            case 12, 13, 14 -> x.addPoint(number, number % 2);
            case 15, 17, 20 -> x.fit();
            case 16, 19 -> x.removePoint(0);
            case 21 -> Checks.load(x, "prime 97; join 0 1; rule 0 2 is 96 0 0;");
            case 22 -> x.setRule(1, 0, 95);
            default -> Checks.load(x, "prime 13; join 0 1; rule 0 2 is 12 0 0; rule 9 9 is;");
        }
    }

    /** An object that has been asked for everything ahead of each change answers like one that has not. */
    private static void nothingStale() {
        Checks.sentence(36, "the prime, the order ideal, the rules and the points are as they were ahead of it");
        BorderBasis asked = new BorderBasis();
        Snapshot.of(asked);
        for (int number = 0; number < STEPS; number++) {
            step(asked, number);
            BorderBasis x = new BorderBasis();
            for (int k = 0; k <= number; k++) {
                step(x, k);
            }
            due("step " + number + ": " + Snapshot.of(x), "step " + number + ": " + Snapshot.of(asked));
        }
        due(97, asked.count(0));
    }

    private static void undoKeeps() {
        Checks.sentence(36, "Undoes the latest change that can be undone");
        BorderBasis x = Checks.loaded("prime 97; join 1 0; point 96 96; rule 2 0 is 96 1 0;");
        x.setRule(0, 0, 96);
        x.save(0);
        due(1, Checks.reduce(x, "5 1 0"));
        due(NONE, Checks.reduce(x, "5 21 0"));
        due(4, x.appendText(0x6A6F696E));
        due(0, x.undo());
        due(97, x.count(0));
        due(0, x.rule(0, 0));
        due(5, x.result(1));
        due(2, x.errorCode());
        due(2, x.errorPosition());
        due(8, x.appendText(0x20302031));
        due(9, x.truncateText(x.appendText(0x3B202020) - 3));
        due(2, x.load());
        due(1, x.place(0, 1));
        x.restore(0);
        due(96, x.rule(0, 0));
    }

    private static void slots() {
        Checks.sentence(37, "- slot: 0 or 1; a state that is already saved there is replaced");
        BorderBasis x = Checks.loaded("prime 13; join 1 0; rule 2 0 is 12 1 0; point 12 0;");
        String first = Snapshot.ofState(x);
        x.save(0);
        Checks.load(x, "prime 97; join 0 1; rule 0 2 is 96 0 1; point 96 0; point 0 96;");
        String second = Snapshot.ofState(x);
        x.save(1);
        Checks.load(x, Samples.row(12) + Samples.points(12) + "rule 12 0 is 30 11 0;");
        String third = Snapshot.ofState(x);
        Checks.sentence(38, "Brings back a saved state, which stays saved");
        for (int round = 0; round < 3; round++) {
            x.restore(0);
            due(first, Snapshot.ofState(x));
            change(x, 3);
            x.removePoint(0);
            x.restore(1);
            due(second, Snapshot.ofState(x));
            x.setRule(0, 0, 96);
            x.leave(0, 1);
        }
        x.restore(0);
        x.save(1);
        x.setRule(0, 0, 5);
        x.restore(1);
        due(first, Snapshot.ofState(x));
        due(12, Checks.load(x, Samples.row(12) + Samples.points(12) + "rule 12 0 is 30 11 0;"));
        x.save(0);
        x.save(0);
        x.leave(11, 0);
        x.restore(0);
        due(third, Snapshot.ofState(x));
        x.restore(1);
        due(first, Snapshot.ofState(x));
    }

    private static void slotRange() {
        Checks.sentence(37, "if slot is out of range");
        Checks.sentence(38, "- slot: 0 or 1");
        Checks.sentence(38, "if slot is out of range");
        Checks.sentence(38, "if nothing is saved there");
        BorderBasis x = new BorderBasis();
        for (int slot : Samples.outside(2)) {
            Checks.dueThrow(Checks.ARGUMENT, () -> saved(x, slot));
            Checks.dueThrow(Checks.ARGUMENT, () -> restored(x, slot));
        }
        Checks.dueThrow(Checks.STATE, () -> restored(x, 0));
        Checks.dueThrow(Checks.STATE, () -> restored(x, 1));
        x.save(1);
        Checks.dueThrow(Checks.STATE, () -> restored(x, 0));
        x.restore(1);
        BorderBasis y = new BorderBasis();
        y.save(0);
        Checks.dueThrow(Checks.STATE, () -> restored(y, 1));
        y.restore(0);
        for (int slot : Samples.outside(2)) {
            Checks.dueThrow(Checks.ARGUMENT, () -> restored(y, slot));
        }
    }

    private static void restoreKeeps() {
        Checks.sentence(38, "Brings back a saved state");
        BorderBasis x = Checks.loaded("prime 97; join 1 0; point 96 95;");
        x.save(0);
        due(1, Checks.load(x, "prime 13;"));
        x.addPoint(1, 1);
        due(1, Checks.reduce(x, "12 0 0"));
        due(NONE, Checks.reduce(x, "12"));
        due(4, x.appendText(0x6A6F696E));
        x.restore(0);
        due(97, x.count(0));
        due(95, x.point(0, 1));
        due(0, x.setRule(2, 1, 96));
        due(1, x.addPoint(96, 96));
        due(12, x.result(0));
        due(1, x.errorCode());
        due(2, x.errorPosition());
        due(2, x.changes(3));
        due(8, x.appendText(0x20302031));
        due(9, x.truncateText(x.appendText(0x3B202020) - 3));
        due(2, x.load());
        due(1, x.place(0, 1));
    }

    /** save() is no change: what can be undone stays, and what is undone is not what is saved. */
    private static void saveKeeps() {
        Checks.sentence(37, "Saves the prime, the order ideal, the rules and the points.");
        BorderBasis x = new BorderBasis();
        for (int k = 1; k <= 9; k++) {
            x.setRule(0, 0, k);
        }
        x.save(0);
        due(8, x.count(5));
        due(7, x.undo());
        due(8, x.rule(0, 0));
        x.save(1);
        due(6, x.undo());
        x.restore(0);
        due(9, x.rule(0, 0));
        x.restore(1);
        due(8, x.rule(0, 0));
        due(9, x.changes(2));
    }

    private static void manyCalls() {
        Checks.sentence(0, "the latest 8 can be undone");
        BorderBasis x = new BorderBasis();
        for (int k = 0; k < 250; k++) {
            x.join(k % 2, 1 - k % 2);
            x.leave(k % 2, 1 - k % 2);
        }
        due(250, x.changes(0));
        due(250, x.changes(1));
        for (int k = 7; k >= 0; k--) {
            due(k, x.undo());
        }
        due(NONE, x.undo());
        due(1, x.count(1));
    }

    public static void main(String[] args) {
        nothingDiffers();
        noChanges();
        latestEight();
        undoneAndChanged();
        forgottenByLoad();
        forgottenByRestore();
        counted();
        nothingStale();
        undoKeeps();
        slots();
        slotRange();
        restoreKeeps();
        saveKeeps();
        manyCalls();
        Checks.end();
    }
}
