import java.io.IOException;
import java.nio.file.Files;
import java.nio.file.Path;
import java.util.Set;
import java.util.TreeSet;
import java.util.regex.Matcher;
import java.util.regex.Pattern;

/**
 * What the hand-made tests share: answers that are due, the sentences of the document that they are
 * about, and texts handed over four bytes a call.
 */
final class Checks {
    /** A call of which an answer or an exception is due. */
    interface Call {
        Object answer();
    }

    static final String ARGUMENT = "IllegalArgumentException";
    static final String INDEX = "IndexOutOfBoundsException";
    static final String STATE = "IllegalStateException";

    private static final Path DOCUMENT = Path.of("../shared/DOC.md");
    private static final String SECTION = "## Promise ";
    private static final String DESCRIPTION = "## Description";

    private static int made;
    private static int wrong;
    private static String present = "";
    /** What there was a check of, as promise() tells it, with a check's exception behind it. */
    private static final Set<String> tested = new TreeSet<>();
    /** The number of checks when the latest sentence was told. */
    private static int madeAtSentence = -1;
    private static String document;

    private Checks() {
    }

    static void promise(int number, String name) {
        about("promise " + number + " (" + name + ")");
    }

    /** What the checks that follow are about. */
    static void about(String words) {
        present = words;
    }

    /**
     * The checks that follow are about this sentence of a promise, or of the description (0), and about
     * those told just ahead of it. It must stand there: a test of words that are no longer the
     * document's has to be thought over.
     */
    static void sentence(int number, String words) {
        String told = (number == 0 ? "description" : "promise " + number) + ", " + words;
        present = made == madeAtSentence ? present + " / " + told : told;
        due(true, section(number).contains(words));
        madeAtSentence = made;
    }

    /** Each promise of the document has had a check of its own, and each of its exceptions. */
    static void dueEachPromise() {
        Matcher heading = Pattern.compile("(?m)^" + SECTION + "(\\d+): (.+)$").matcher(document());
        int found = 0;
        while (heading.find()) {
            found++;
            int number = Integer.parseInt(heading.group(1));
            promise(number, heading.group(2));
            due(true, tested.contains(present));
            Matcher exception = Pattern.compile("(?m)^Throws (\\w+)").matcher(section(number));
            while (exception.find()) {
                due(true, tested.contains(present + exception.group(1)));
            }
        }
        about("promises of the document");
        due(38, found);
    }

    /** A section of the document. */
    private static String section(int number) {
        String document = document();
        int start = document.indexOf(number == 0 ? DESCRIPTION : SECTION + number + ":");
        if (start < 0) {
            return "";
        }
        int end = document.indexOf(number == 0 ? SECTION : "\n## ", start + 1);
        return document.substring(start, end < 0 ? document.length() : end);
    }

    /** The document without its back quotes. */
    private static String document() {
        if (document == null) {
            try {
                document = Files.readString(DOCUMENT).replace("`", "");
            } catch (IOException e) {
                document = "";
            }
        }
        return document;
    }

    static void due(Object want, Object got) {
        made++;
        tested.add(present);
        if (!want.equals(got)) {
            wrong++;
            System.out.println(present + ", line " + lineOfTest() + ": " + got + ", due is " + want);
        }
    }

    /** The line in the method that main called. */
    private static int lineOfTest() {
        StackTraceElement[] trace = new Throwable().getStackTrace();
        int depth = trace.length - 1;
        while (depth > 0 && trace[depth].getMethodName().equals("main")) {
            depth--;
        }
        return trace[depth].getLineNumber();
    }

    static void dueThrow(String exception, Call call) {
        String thrown = "nothing";
        try {
            call.answer();
        } catch (RuntimeException e) {
            thrown = e.getClass().getSimpleName();
        }
        due(exception, thrown);
        tested.add(present + exception);
    }

    static void send(BorderBasis basis, String text) {
        for (int k = 0; k < text.length(); k += 4) {
            int four = 0;
            for (int m = k; m < k + 4; m++) {
                four = four << 8 | (m < text.length() ? text.charAt(m) & 255 : '#');
            }
            basis.appendText(four);
        }
        basis.truncateText(text.length());
    }

    static int load(BorderBasis basis, String text) {
        send(basis, text);
        return basis.load();
    }

    static int reduce(BorderBasis basis, String text) {
        send(basis, text);
        return basis.reduce();
    }

    static BorderBasis loaded(String text) {
        BorderBasis basis = new BorderBasis();
        due(true, load(basis, text) > 0);
        return basis;
    }

    static void end() {
        System.out.println(made + " checks, " + wrong + " wrong");
        System.exit(wrong == 0 ? 0 : 1);
    }
}
