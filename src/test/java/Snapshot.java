/** All that an object answers without being changed, as one text. */
final class Snapshot {
    private static final int GRID = 13;

    private Snapshot() {
    }

    /** What save(), undo() and restore() are about: the prime, the order ideal, the rules and the points. */
    static String ofState(BorderBasis x) {
        StringBuilder text = new StringBuilder();
        for (int what = 0; what <= 4; what++) {
            text.append("count ").append(x.count(what)).append('\n');
        }
        for (int k = 0; k < x.count(1); k++) {
            text.append("monomial ").append(x.monomial(k, 0)).append(' ').append(x.monomial(k, 1)).append('\n');
        }
        for (int k = 0; k < x.count(2); k++) {
            text.append("border ").append(x.border(k, 0)).append(' ').append(x.border(k, 1)).append(':');
            for (int m = 0; m < x.count(1); m++) {
                text.append(' ').append(x.rule(k, m));
            }
            text.append('\n');
        }
        for (int k = 0; k < x.count(4); k++) {
            text.append("point ").append(x.point(k, 0)).append(' ').append(x.point(k, 1)).append('\n');
        }
        addDerived(text, x);
        return text.toString();
    }

    /** The state, and what else can be asked. */
    static String of(BorderBasis x) {
        StringBuilder text = new StringBuilder(ofState(x));
        text.append("undo ").append(x.count(5)).append('\n');
        for (int kind = 0; kind < 6; kind++) {
            text.append("changes ").append(x.changes(kind)).append('\n');
        }
        text.append("error ").append(x.errorCode()).append(' ').append(x.errorPosition()).append("\nresult");
        for (int k = 0; k < 12; k++) {
            text.append(' ').append(x.result(k));
        }
        return text.append('\n').toString();
    }

    /** What is computed from the state. */
    private static void addDerived(StringBuilder text, BorderBasis x) {
        int size = x.count(1);
        text.append("leave ").append(x.count(7)).append(", join ").append(x.count(6)).append('\n');
        for (int i = 0; i <= GRID; i++) {
            for (int j = 0; j <= GRID; j++) {
                text.append(x.place(i, j)).append(i < 12 && j < 12 ? "/" + x.refusal(i, j) : "").append(' ');
            }
        }
        for (int variable = 0; variable < 2; variable++) {
            text.append("\ntable ").append(variable).append(':');
            for (int k = 0; k < size * size; k++) {
                text.append(' ').append(x.table(variable, k / size, k % size));
            }
            text.append("\ndeterminant ").append(x.determinant(variable)).append(", kernel");
            for (int value = 0; value < x.count(0); value++) {
                text.append(' ').append(x.kernel(variable, value));
            }
        }
        text.append("\ncommutes ").append(x.commutes()).append(", clash");
        for (int what = 0; what < 5; what++) {
            text.append(' ').append(x.clash(what));
        }
        text.append("\ntrace ").append(x.trace(22, 21)).append(", normal");
        for (int k = 0; k < size; k++) {
            text.append(' ').append(x.normal(13, 22, k));
        }
        addZeros(text, x);
    }

    private static void addZeros(StringBuilder text, BorderBasis x) {
        text.append("\nzeros ").append(x.zeros(1)).append(' ').append(x.zeros(2)).append(':');
        for (int k = 0; k < x.zeros(0); k++) {
            text.append(' ').append(x.zero(k, 0)).append(',').append(x.zero(k, 1)).append(',').append(x.zero(k, 2));
        }
        text.append("\nmultiplicity ").append(x.multiplicity(0, 0)).append(", share ").append(x.share());
        text.append(", misfits ").append(x.misfits()).append('\n');
        for (int k = 0; k < x.count(2); k++) {
            text.append(x.value(k, 12, 1)).append(' ');
        }
        for (int k = 0; k < x.count(4); k++) {
            text.append(x.point(k, 2)).append(' ');
        }
        text.append('\n');
    }
}
