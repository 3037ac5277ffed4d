/** What the hand-made tests share: answers that are due, and texts handed over four bytes a call. */
final class Checks {
    /** A call of which an answer or an exception is due. */
    interface Call {
        Object answer();
    }

    static final String ARGUMENT = "IllegalArgumentException";
    static final String INDEX = "IndexOutOfBoundsException";
    static final String STATE = "IllegalStateException";

    private static int made;
    private static int wrong;
    private static String present = "";

    private Checks() {
    }

    static void promise(int number, String name) {
        present = number + " (" + name + ")";
    }

    static void due(Object want, Object got) {
        made++;
        if (!want.equals(got)) {
            wrong++;
            StackTraceElement[] trace = new Throwable().getStackTrace();
            int depth = 1;
            while (trace[depth].getClassName().equals("Checks")) {
                depth++;
            }
            System.out.println("promise " + present + ", line " + trace[depth].getLineNumber()
                + ": " + got + ", due is " + want);
        }
    }

    static void dueThrow(String exception, Call call) {
        String thrown = "nothing";
        try {
            call.answer();
        } catch (RuntimeException e) {
            thrown = e.getClass().getSimpleName();
        }
        due(exception, thrown);
    }

    static void send(BorderBasis basis, String text) {
        for (int k = 0; k < text.length(); k += 4) {
            int four = 0;
            for (int m = k; m < k + 4; m++) {
                four = four << 8 | (m < text.length() ? text.charAt(m) & 255 : '#');
            }
            basis.appendText(four);
        }
        basis.truncateText(text.length());
    }

    static int load(BorderBasis basis, String text) {
        send(basis, text);
        return basis.load();
    }

    static int reduce(BorderBasis basis, String text) {
        send(basis, text);
        return basis.reduce();
    }

    static BorderBasis loaded(String text) {
        BorderBasis basis = new BorderBasis();
        due(true, load(basis, text) > 0);
        return basis;
    }

    static void end() {
        System.out.println(made + " checks, " + wrong + " wrong");
        System.exit(wrong == 0 ? 0 : 1);
    }
}
