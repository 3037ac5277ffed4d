/** Texts: a test for each sentence of the document that names an edge; promises 2 to 8. */
public final class TextEdgeTest {
    private static final int NONE = BorderBasis.NONE;
    private static final int LIMIT = 900;
    private static final String FULL_ROW = Samples.row(12);
    private static final String FULL_COLUMN = Samples.column(12);
    private static final String TWELVE_POINTS = Samples.points(12);

    private TextEdgeTest() {
    }

    private static void due(Object want, Object got) {
        Checks.due(want, got);
    }

    /** The text is right; the object that has read it. */
    private static BorderBasis right(String text) {
        BorderBasis x = new BorderBasis();
        due(text + ": right", text + (Checks.load(x, text) == NONE ? ": wrong" : ": right"));
        due(0, x.errorCode());
        due(NONE, x.errorPosition());
        return x;
    }

    /** A setup with an error; the ^ stands in front of its position and is no part of the text. */
    private static void wrong(int code, String marked) {
        BorderBasis x = new BorderBasis();
        String text = marked.replace("^", "");
        due(NONE, Checks.load(x, text));
        dueError(x, text, code, marked.indexOf('^'));
    }

    private static void rightPolynomial(String text) {
        BorderBasis x = new BorderBasis();
        due(true, Checks.reduce(x, text) != NONE);
        dueError(x, text, 0, NONE);
    }

    private static void wrongPolynomial(int code, String marked) {
        BorderBasis x = new BorderBasis();
        String text = marked.replace("^", "");
        due(NONE, Checks.reduce(x, text));
        dueError(x, text, code, marked.indexOf('^'));
    }

    private static void dueError(BorderBasis x, String text, int code, int position) {
        due(text + ": " + code, text + ": " + x.errorCode());
        due(text + ": " + position, text + ": " + x.errorPosition());
    }

    private static String repeat(String part, int times) {
        return part.repeat(times);
    }

    private static void appendedBytes() {
        Checks.sentence(2, "Appends four bytes to the text buffer, the highest byte of the parameter first.");
        BorderBasis x = new BorderBasis();
        int[] fours = {0x7072696D, 0x65203133, 0x3B0A3B20};
        for (int k = 0; k < fours.length; k++) {
            due(4 * k + 4, x.appendText(fours[k]));
        }
        due(10, x.truncateText(10));
        due(1, x.load());
        due(13, x.count(0));
        int[] noTexts = {0, -1, Integer.MIN_VALUE, Integer.MAX_VALUE, 0x80202020, 0xFF3B3B3B, 0x003B3B3B};
        for (int four : noTexts) {
            due(4, x.appendText(four));
            due(NONE, x.load());
            dueError(x, "", 1, 0);
        }
        due(4, x.appendText(0x202020FF));
        due(NONE, x.load());
        dueError(x, "", 1, 3);
    }

    private static void fullText() {
        Checks.sentence(2, "if the text would be longer than 900 bytes");
        Checks.sentence(0, "collected in a text buffer of at most 900 bytes");
        for (int length = 893; length <= LIMIT; length++) {
            BorderBasis x = new BorderBasis();
            Checks.send(x, repeat(" ", LIMIT));
            due(length, x.truncateText(length));
            if (length + 4 <= LIMIT) {
                due(length + 4, x.appendText(0x20202020));
            } else {
                Checks.dueThrow(Checks.STATE, () -> x.appendText(0x20202020));
                int kept = length;
                due(kept, x.truncateText(kept));
                Checks.dueThrow(Checks.ARGUMENT, () -> x.truncateText(kept + 1));
                Checks.dueThrow(Checks.STATE, () -> x.appendText(0));
            }
            due(1, x.load());
        }
    }

    /** Texts in which all 900 bytes are used. */
    private static void fullTexts() {
        Checks.sentence(0, "collected in a text buffer of at most 900 bytes");
        right(repeat("rule 1 0 is;", 75));
        right(repeat(" ", LIMIT));
        wrong(1, repeat(" ", LIMIT - 1) + "^?");
        wrong(1, repeat("rule 1 0 is;", 74) + "rule 1 0 is ^");
        wrong(1, "^" + repeat(";", LIMIT));
        wrong(1, "^" + repeat("a", LIMIT));
        wrong(1, "^" + repeat("0", LIMIT));
        wrong(1, "^" + repeat("-", LIMIT));
        BorderBasis x = new BorderBasis();
        String terms = repeat("1 0 0,", 149) + "1 0 00";
        due(LIMIT, terms.length());
        due(1, Checks.reduce(x, terms));
        due(150 % 31, x.result(0));
        due(NONE, Checks.reduce(x, repeat("1 0 0,", 150)));
        dueError(x, "", 1, LIMIT);
        // 225 terms are 900 bytes in as few signs as may be
        due(NONE, Checks.reduce(x, repeat("1,0 ", 225)));
        dueError(x, "", 1, 1);
    }

    private static void truncated() {
        Checks.sentence(3, "- length: the new length, 0 to the present length");
        for (int present = 0; present <= LIMIT; present += 4) {
            BorderBasis x = new BorderBasis();
            for (int k = 0; k < present; k += 4) {
                x.appendText(0x20202020);
            }
            int greater = present + 1;
            Checks.dueThrow(Checks.ARGUMENT, () -> x.truncateText(greater));
            due(present, x.truncateText(present));
        }
        BorderBasis x = new BorderBasis();
        Checks.send(x, "1 0 0, 5 0 0");
        Checks.sentence(3, "if length is out of range");
        for (int length : Samples.outside(13)) {
            Checks.dueThrow(Checks.ARGUMENT, () -> x.truncateText(length));
        }
        due(12, x.truncateText(12));
        due(5, x.truncateText(5));
        Checks.dueThrow(Checks.ARGUMENT, () -> x.truncateText(6));
        due(1, x.reduce());
        due(1, x.result(0));
        due(0, x.truncateText(0));
        Checks.send(x, "5 0 0");
        due(0, x.truncateText(0));
        due(NONE, x.reduce());
        dueError(x, "", 1, 0);
    }

    /** What was cut off or read does not come back when the buffer grows again. */
    private static void emptyAfterwards() {
        Checks.sentence(4, "The text buffer is empty afterwards, also if there is an error.");
        String[] texts = {"join 1 0;", "join 1 1;", "", "?"};
        for (String text : texts) {
            BorderBasis x = new BorderBasis();
            Checks.load(x, text);
            dueEmptyText(x);
        }
        Checks.sentence(5, "The text buffer is empty afterwards, also if there is an error.");
        String[] polynomials = {"1 0 0", "1 0", "", "1 21 0"};
        for (String text : polynomials) {
            BorderBasis x = new BorderBasis();
            Checks.reduce(x, text);
            dueEmptyText(x);
        }
    }

    private static void dueEmptyText(BorderBasis x) {
        Checks.dueThrow(Checks.ARGUMENT, () -> x.truncateText(1));
        due(0, x.truncateText(0));
        due(4, x.appendText(0x20202020));
        due(1, x.load());
    }

    private static void emptySetup() {
        Checks.sentence(0, "setup      = { statement \";\" }");
        String[] texts = {"", " ", "\n", " \n \n "};
        for (String text : texts) {
            BorderBasis x = new BorderBasis();
            x.addPoint(1, 2);
            x.join(1, 0);
            x.setRule(0, 0, 5);
            due(1, Checks.load(x, text));
            dueError(x, text, 0, NONE);
            dueAtFirst(x);
        }
    }

    /** The prime, the order ideal, the rules and the points as told "at first". */
    private static void dueAtFirst(BorderBasis x) {
        int[] counts = {31, 1, 2, 0, 0, 0, 2, 0};
        for (int what = 0; what < counts.length; what++) {
            due(counts[what], x.count(what));
        }
    }

    private static void replaced() {
        Checks.sentence(4, "replaces the prime, the order ideal, the rules and the points");
        BorderBasis x = right("prime 13; join 0 1; rule 1 0 is 5 0 0, 6 0 1; rule 0 2 is 1 0 1; point 12 12; point 0 0;");
        due(3, x.count(3));
        due(2, Checks.load(x, "join 1 0; rule 2 0 is 7 1 0; point 30 30;"));
        due(31, x.count(0));
        due(1, x.place(1, 0));
        due(100, x.place(0, 1));
        due(1, x.count(3));
        due(7, x.rule(1, 1));
        due(1, x.count(4));
        due(30, x.point(0, 0));
    }

    private static void keptByLoad() {
        Checks.sentence(4, "The saved states and the result of reduce() stay.");
        BorderBasis x = right("prime 37; join 1 0; join 2 0;");
        x.save(0);
        x.save(1);
        due(1, Checks.reduce(x, "36 2 0"));
        due(1, Checks.load(x, "prime 13;"));
        due(36, x.result(2));
        x.restore(1);
        due(37, x.count(0));
        due(3, x.count(1));
        due(1, Checks.load(x, ""));
        x.restore(0);
        due(37, x.count(0));
    }

    private static void answersOfLoad() {
        Checks.sentence(4, "Returns the number of monomials of the order ideal");
        for (int size = 1; size <= 12; size++) {
            due(size, Checks.load(new BorderBasis(), Samples.row(size)));
            due(size, Checks.load(new BorderBasis(), Samples.column(size)));
        }
    }

    private static void failedLoad() {
        Checks.sentence(4, "NONE if the text has an error (then everything else stays)");
        String[] texts = {"prime 13; join 0 1; point 1 1; rule 1 0 is 9 0 0; ?", "prime 13", "prime 13; point 3 3; point 3 3;",
            "rule 2 0 is 9 0 0, 9 0 0;", FULL_ROW + "join"};
        for (String text : texts) {
            BorderBasis x = right("prime 17; join 1 0; rule 2 0 is 16 1 0; point 16 16;");
            x.setRule(0, 1, 3);
            x.save(1);
            due(1, Checks.reduce(x, "2 1 0"));
            due(NONE, Checks.load(x, text));
            due(17, x.count(0));
            due(2, x.count(1));
            due(2, x.count(3));
            due(16, x.rule(1, 1));
            due(3, x.rule(0, 1));
            due(1, x.count(4));
            due(1, x.changes(2));
            due(2, x.result(1));
            due(0, x.undo());
            due(0, x.rule(0, 1));
            x.restore(1);
            due(3, x.rule(0, 1));
        }
    }

    private static void answersOfReduce() {
        Checks.sentence(5, "Returns the number of coefficients of the result that are not 0");
        BorderBasis x = right(FULL_ROW);
        StringBuilder terms = new StringBuilder("31 0 0, 0 11 0");
        due(0, Checks.reduce(x, terms.toString()));
        for (int k = 0; k < 12; k++) {
            terms.append(", ").append(k + 1).append(' ').append(11 - k).append(" 0");
            due(k + 1, Checks.reduce(x, terms.toString()));
        }
        for (int k = 0; k < 12; k++) {
            due(12 - k, x.result(k));
        }
    }

    private static void failedReduce() {
        Checks.sentence(5, "NONE if the text has an error (then the result stays)");
        BorderBasis x = right(FULL_ROW);
        String[] texts = {"", "9 0 0,", "9 0 0, 9 1 0 9", "9 0 0, 1000 0 0", "9 1 0, 9 0 21"};
        for (String text : texts) {
            due(NONE, Checks.reduce(x, text));
            due(0, x.result(0));
        }
        due(2, Checks.reduce(x, "4 0 0, 30 11 0"));
        for (String text : texts) {
            due(NONE, Checks.reduce(x, text));
            due(4, x.result(0));
            due(0, x.result(1));
            due(30, x.result(11));
        }
        due(1, Checks.reduce(x, "1 1 0"));
        due(0, x.result(0));
        due(0, x.result(11));
    }

    private static void noErrorAtFirst() {
        Checks.sentence(6, "0 if its text had no error, or if there was no such call");
        Checks.sentence(7, "NONE if its text had no error, or if there was no such call");
        BorderBasis x = new BorderBasis();
        dueError(x, "", 0, NONE);
        x.join(1, 0);
        x.undo();
        x.save(0);
        x.restore(0);
        Checks.send(x, "?");
        Checks.dueThrow(Checks.STATE, () -> x.fit());
        dueError(x, "", 0, NONE);
        due(NONE, x.load());
        dueError(x, "?", 1, 0);
    }

    private static void latestError() {
        Checks.sentence(6, "Returns the error code of the latest load() or reduce()");
        Checks.sentence(7, "Returns the error position of the latest load() or reduce()");
        BorderBasis x = new BorderBasis();
        due(NONE, Checks.load(x, "join 1 12;"));
        dueError(x, "", 2, 7);
        x.join(1, 0);
        x.undo();
        x.restore(saved(x));
        Checks.send(x, "1 0 0");
        dueError(x, "", 2, 7);
        due(1, x.reduce());
        dueError(x, "", 0, NONE);
        due(NONE, Checks.reduce(x, "1 0"));
        dueError(x, "", 1, 3);
        due(1, Checks.load(x, ""));
        dueError(x, "", 0, NONE);
        due(NONE, Checks.load(x, " join 2 0;"));
        dueError(x, "", 4, 8);
        due(NONE, Checks.reduce(x, "  1000 0 0"));
        dueError(x, "", 2, 2);
    }

    private static int saved(BorderBasis x) {
        x.save(0);
        return 0;
    }

    private static void resultIndex() {
        Checks.sentence(8, "- index: 0 to 11");
        BorderBasis x = right(FULL_ROW);
        due(1, Checks.reduce(x, "3 11 0"));
        due(3, x.result(11));
        due(0, x.result(0));
        Checks.sentence(8, "Throws IndexOutOfBoundsException if index is out of range");
        for (int index : Samples.outside(12)) {
            Checks.dueThrow(Checks.INDEX, () -> x.result(index));
        }
    }

    private static void resultAsComputed() {
        Checks.sentence(8, "the coefficient in row index of the latest result of reduce(), as it was computed then");
        BorderBasis x = right("prime 97; join 1 0;");
        due(2, Checks.reduce(x, "-1 0 0, 95 1 0"));
        x.leave(1, 0);
        x.setRule(0, 0, 4);
        due(1, Checks.load(x, "prime 13;"));
        due(96, x.result(0));
        due(95, x.result(1));
    }

    private static void resultBehind() {
        Checks.sentence(8, "0 behind its last row and if there is no result");
        BorderBasis x = new BorderBasis();
        for (int index = 0; index < 12; index++) {
            due(0, x.result(index));
        }
        due(NONE, Checks.reduce(x, "5"));
        due(0, x.result(0));
        due(12, Checks.load(x, FULL_COLUMN));
        due(2, Checks.reduce(x, "5 0 1, 6 0 11"));
        due(6, x.result(11));
        due(1, Checks.load(x, ""));
        due(1, Checks.reduce(x, "2 0 0"));
        due(2, x.result(0));
        for (int index = 1; index < 12; index++) {
            due(0, x.result(index));
        }
    }

    /** Each byte alone, between two tokens, in a word and behind a number. */
    private static void bytes() {
        Checks.sentence(0, "Spaces (byte 32) and line feeds (byte 10) may stand before, between and behind tokens.");
        for (int k = 0; k < 256; k++) {
            char sign = (char) k;
            boolean blank = k == 32 || k == 10;
            BorderBasis x = new BorderBasis();
            due(blank ? 1 : NONE, Checks.load(x, "" + sign));
            dueError(x, k + "", blank ? 0 : 1, blank ? NONE : 0);
            due(blank || sign == '0' ? 2 : NONE, Checks.load(x, "join" + sign + "1 0;"));
            if (!blank && (sign < '0' || sign > '9')) {
                dueError(x, k + "", 1, sign >= 'a' && sign <= 'z' ? 0 : 4);
            }
            due(sign == 'i' ? 2 : NONE, Checks.load(x, "jo" + sign + "n 1 0;"));
            if (sign != 'i') {
                dueError(x, k + "", 1, 0);
            }
            due(blank || sign == '0' ? 2 : NONE, Checks.load(x, "join 1 0" + sign + ";"));
            if (!blank && (sign < '0' || sign > '9')) {
                dueError(x, k + "", 1, sign == ';' ? 9 : 8);
            }
            due(blank ? 1 : NONE, Checks.reduce(x, "1" + sign + "0 0"));
            if (!blank) {
                dueError(x, k + "", 1, sign >= '0' && sign <= '9' ? 5 : 1);
            }
        }
    }

    private static void blanks() {
        Checks.sentence(0, "Spaces (byte 32) and line feeds (byte 10) may stand before, between and behind tokens.");
        String[] tokens = {"rule", "1", "0", "is", "-", "5", "0", "0", ";", "rule", "0", "1", "is", ";"};
        StringBuilder apart = new StringBuilder(" \n");
        for (String token : tokens) {
            apart.append(token).append(" \n \n\n");
        }
        due(26, right(apart.toString()).rule(0, 0));
        due(26, right("rule1 0is-5 0 0;rule0 1is;").rule(0, 0));
        due(4, right("prime97;join1 0;join0 1;join1 1;point96 0;rule2 0is1 0 0,-1 1 1;").count(1));
        rightPolynomial("\n1\n0\n0\n");
        rightPolynomial("1 0 0,1 0 0,-1 0 0");
        rightPolynomial(" - 1 0 0 , - 1 0 0 ");
    }

    private static void words() {
        Checks.sentence(0, "words (maximal runs of the letters a to z)");
        String[] wrongs = {"^joi 1 0;", "^joins 1 0;", "^ajoin 1 0;", "^joinjoin 1 0;", "^jo in 1 0;", "^Join 1 0;",
            "^joiN 1 0;", "^JOIN 1 0;", "^j 1 0;", "^rul 1 0 is;", "^rules 1 0 is;", "^pointa 1 1;", "^poin 1 1;",
            "^prim 13;", "^primes 13;", "^is;", "^a;", "^z;", "^joina 1 0;",
            "rule 1 0 ^i;", "rule 1 0 ^isis;", "rule 1 0 ^iss 1 0 0;", "rule 1 0 ^s;", "rule 1 0 ^Is;", "rule 1 0 ^join;"};
        for (String text : wrongs) {
            wrong(1, text);
        }
    }

    private static void digits() {
        Checks.sentence(0, "numbers (maximal runs of the digits 0 to 9)");
        due(1, right("join 01 00;").place(1, 0));
        wrong(1, "join 10^;");
        wrong(2, "join ^12;");
        wrong(1, "join 1^/0;");
        wrong(1, "join 1^:0;");
        wrong(1, "join 1^.0;");
        wrong(1, "join ^+1 0;");
        due(9, right("rule 1 0 is 09 0 0;").rule(0, 0));
        due(9, right("rule 1 0 is 0000009 0000 000000;").rule(0, 0));
    }

    private static void longNumbers() {
        Checks.sentence(0, "Numbers may have any number of digits.");
        due(97, right("prime " + repeat("0", 891) + "97;").count(0));
        due(1, right("join " + repeat("0", 400) + "1 " + repeat("0", 400) + ";").place(1, 0));
        due(999 % 31, right("rule 1 0 is " + repeat("0", 500) + "999 0 " + repeat("0", 100) + ";").rule(0, 0));
        due(30, right("point " + repeat("0", 300) + "30 " + repeat("0", 300) + "0;").point(0, 0));
        wrong(2, "prime ^" + repeat("9", 893) + ";");
        wrong(2, "prime ^1" + repeat("0", 600) + "13;");
        // each is right modulo 2 to the 8th, 16th, 31st, 32nd, 63rd or 64th power, or modulo a power of 10
        String[] primes = {"269", "65549", "2147483661", "4294967309", "9223372036854775821", "18446744073709551629",
            "100013", "1000013", "10000013"};
        for (String prime : primes) {
            wrong(2, "prime ^" + prime + ";");
        }
        String[] ones = {"257", "65537", "2147483649", "4294967297", "9223372036854775809", "18446744073709551617",
            "100001", "1000001"};
        for (String one : ones) {
            wrong(2, "join ^" + one + " 0;");
            wrong(2, "join 0 ^" + one + ";");
            wrong(2, "rule ^" + one + " 0 is;");
            wrong(2, "rule 0 ^" + one + " is;");
            wrong(2, "point ^" + one + " 0;");
            wrong(2, "point 0 ^" + one + ";");
            wrongPolynomial(2, "1 ^" + one + " 0");
            wrongPolynomial(2, "1 0 ^" + one);
        }
        String[] coefficients = {"1000", "1001", "65537", "2147483649", "4294967297", "18446744073709551617", "100001"};
        for (String one : coefficients) {
            wrong(2, "rule 1 0 is ^" + one + " 0 0;");
            wrong(2, "rule 1 0 is -^" + one + " 0 0;");
            wrongPolynomial(2, "^" + one + " 0 0");
        }
    }

    /** A right text, token by token: cut ahead of each, and with something else in its place. */
    private static void grammar() {
        Checks.sentence(0, "1 the token is not allowed there, a byte belongs to no token, or the text ends too early");
        String[] tokens = {"prime", "13", ";", "join", "0", "1", ";", "rule", "0", "2", "is", "-", "5", "0", "0", ",", "6",
            "0", "1", ";", "rule", "1", "0", "is", ";", "point", "12", "12", ";"};
        String[] others = {"?", "a", "iss", "Is", "\t", "\u00ff", "\u0000"};
        StringBuilder text = new StringBuilder();
        int monomials = 1;
        for (int k = 0; k < tokens.length; k++) {
            if (k > 0 && tokens[k - 1].equals(";")) {
                due(monomials, Checks.load(new BorderBasis(), text.toString()));
            } else if (k > 0) {
                wrong(1, text + "^");
            }
            for (String other : others) {
                wrong(1, text + "^" + other);
            }
            monomials = tokens[k].equals("join") ? 2 : monomials;
            text.append(tokens[k]).append(' ');
        }
        due(2, right(text.toString()).count(1));
    }

    private static void tooEarly() {
        Checks.sentence(0, "or the length of the text if the text ends too early");
        String[] texts = {"join^", "join ^", "join 1^", "join 1 0^", "join 1 0 \n ^", "join 1 0; rule^", "rule 1 0^",
            "rule 1 0 is^", "rule 1 0 is -^", "rule 1 0 is 5^", "rule 1 0 is 5 0^", "rule 1 0 is 5 0 0^",
            "rule 1 0 is 5 0 0,^", "prime^", "prime 13^", "point^", "point 1^", "point 1 1^"};
        for (String text : texts) {
            wrong(1, text);
        }
        String[] polynomials = {"^", " ^", "\n\n ^", "-^", "- ^", "5^", "5 0^", "5 0 ^", "5 0 0,^", "5 0 0, ^", "5 0 0,-^"};
        for (String text : polynomials) {
            wrongPolynomial(1, text);
        }
    }

    private static void semicolons() {
        Checks.sentence(0, "setup      = { statement \";\" }");
        String[] texts = {"^;", " \n^;", "join 1 0;^;", "join 1 0; ^;", "^, join 1 0;", "join 1 0^,", "join 1 0 ^join 2 0;",
            "prime 13 ^join 1 0;", "point 1 1 ^1;", "prime 13 ^13;", "join 1 0 ^0;", "join ^;", "join 1 ^;", "join ^is 1 0;",
            "join 1^,0;", "join ^-1 0;", "point 1^,1;", "point ^-1 1;", "rule ^-1 0 is;", "rule 1^,0 is;", "prime ^-13;",
            "prime ^prime 13;", "^1 0 0;", "^-1 0 0;"};
        for (String text : texts) {
            wrong(1, text);
        }
    }

    private static void terms() {
        Checks.sentence(0, "terms      = term { \",\" term }");
        String[] texts = {"rule 1 0 is ^, 5 0 0;", "rule 1 0 is 5 0 0 ^5 0 0;", "rule 1 0 is 5 0 0,^;",
            "rule 1 0 is 5 0 0,^, 5 0 0;", "rule 1 0 is 5 0 0 ^- 5 0 0;", "rule 1 0 is - ^- 5 0 0;", "rule 1 0 is -^;",
            "rule 1 0 is 5 ^- 0 0;", "rule 1 0 is 5 0 ^-0;", "rule 1 0 is 5^, 0 0;", "rule 1 0 is 5 0^, 0;",
            "rule 1 0 is 5 0 0 ^is;", "rule 1 0 is ^is 5 0 0;", "rule 1 0 ^5 0 0;", "rule 1 0 ^;", "rule 1 ^is 5 0 0;",
            "rule 1 0 ^, is 5 0 0;", "rule 1 0 ^- is 5 0 0;"};
        for (String text : texts) {
            wrong(1, text);
        }
        String[] polynomials = {"^,1 0 0", "1 0 0^;", "1 0 0 ^1 0 0", "1 0 0,^,1 0 0", "1 0 0 ^-1 0 0", "-^-1 0 0",
            "1^,0 0", "1 0^,0", "1 ^-0 0", "1 0 ^-0", "^is", "^join 1 0", "1 0 0,^is 1 0 0", "1 0 0^is", "^;", "^?"};
        for (String text : polynomials) {
            wrongPolynomial(1, text);
        }
    }

    private static void emptyTerms() {
        Checks.sentence(0, "\"rule\" I J \"is\" [ terms ]");
        BorderBasis x = right("rule 1 0 is 5 0 0; rule 1 0 is; rule 0 1 is ;");
        due(0, x.count(3));
        Checks.sentence(0, "polynomial = terms");
        wrongPolynomial(1, "^");
    }

    private static void primeFirst() {
        Checks.sentence(0, "\"prime\" stands only as the first statement.");
        due(13, right("prime 13;").count(0));
        due(13, right(" \n prime 13; join 1 0;").count(0));
        wrong(1, "prime 13; ^prime 13;");
        wrong(1, "prime 13; ^prime 17;");
        wrong(1, "join 1 0; ^prime 13;");
        wrong(1, "point 1 1; ^prime 13;");
        wrong(1, "rule 1 0 is; ^prime 13;");
        wrong(1, "rule 1 0 is; ^prime");
        wrong(1, "prime 13; join 1 0; ^prime 11;");
        wrongPolynomial(1, "^prime 13;");
    }

    private static void ruleOfText() {
        Checks.sentence(0, "those that are not told are 0");
        BorderBasis x = right("join 1 0; rule 2 0 is 1 0 0, 2 1 0; rule 1 1 is 3 0 0, 4 1 0; rule 2 0 is 5 1 0; rule 1 1 is;");
        due(0, x.rule(1, 0));
        due(5, x.rule(1, 1));
        due(1, x.count(3));
        Checks.sentence(0, "\"join\" lets a monomial join the order ideal");
        BorderBasis y = right("rule 0 1 is 5 0 0; rule 1 0 is 6 0 0; join 1 0; rule 2 0 is 7 1 0;");
        due(5, y.rule(0, 0));
        due(0, y.rule(0, 1));
        due(7, y.rule(1, 1));
        due(2, y.count(3));
    }

    private static void coefficients() {
        Checks.sentence(0, "C is 0 to 999, modulo P (with a minus sign its negative).");
        int[] primes = {13, 31, 97};
        for (int prime : primes) {
            int[] numbers = {0, 1, prime - 1, prime, prime + 1, 2 * prime, 998, 999};
            for (int number : numbers) {
                int rest = number % prime;
                int negative = (prime - rest) % prime;
                String head = "prime " + prime + "; rule 1 0 is ";
                due(rest, right(head + number + " 0 0;").rule(0, 0));
                due(negative, right(head + "-" + number + " 0 0;").rule(0, 0));
                due(negative, right(head + "- " + number + " 0 0;").rule(0, 0));
                BorderBasis x = right("prime " + prime + ";");
                due(rest == 0 ? 0 : 1, Checks.reduce(x, number + " 0 0"));
                due(rest, x.result(0));
                due(rest == 0 ? 0 : 1, Checks.reduce(x, "-" + number + " 0 0"));
                due(negative, x.result(0));
            }
        }
        Checks.sentence(0, "C above 999");
        wrong(2, "rule 1 0 is ^1000 0 0;");
        wrong(2, "rule 1 0 is -^1000 0 0;");
        wrong(2, "prime 97; rule 1 0 is 5 0 0, ^1000 0 0;");
        wrongPolynomial(2, "^1000 0 0");
        wrongPolynomial(2, "- ^1000 0 0");
        wrongPolynomial(2, "1 0 0,^1000 0 0");
    }

    private static void primes() {
        Checks.sentence(0, "a P that is no prime from 13 to 97");
        String primes = " 13 17 19 23 29 31 37 41 43 47 53 59 61 67 71 73 79 83 89 97 ";
        for (int number = 0; number <= 1000; number++) {
            if (primes.contains(" " + number + " ")) {
                due(number, right("prime " + number + ";").count(0));
            } else {
                wrong(2, "prime ^" + number + ";");
            }
        }
    }

    private static void rangesOfMonomials() {
        Checks.sentence(0, "I and J of \"join\" above 11");
        due(11, right(FULL_ROW).place(11, 0));
        due(11, right(FULL_COLUMN).place(0, 11));
        wrong(2, Samples.row(11) + "join ^12 0;");
        wrong(2, Samples.column(11) + "join 0 ^12;");
        wrong(2, "join ^12 12;");
        Checks.sentence(0, "of \"rule\" above 12");
        due(7, right(FULL_ROW + "rule 12 0 is 7 0 0;").rule(11, 0));
        due(7, right(FULL_COLUMN + "rule 0 12 is 7 0 0;").rule(12, 0));
        wrong(2, FULL_ROW + "rule ^13 0 is;");
        wrong(2, FULL_COLUMN + "rule 0 ^13 is;");
        Checks.sentence(0, "of a term of a rule above 11");
        due(7, right(FULL_ROW + "rule 0 1 is 7 11 0;").rule(0, 11));
        due(7, right(FULL_COLUMN + "rule 1 0 is 7 0 11;").rule(0, 11));
        wrong(2, FULL_ROW + "rule 0 1 is 7 ^12 0;");
        wrong(2, FULL_COLUMN + "rule 1 0 is 7 0 ^12;");
        Checks.sentence(0, "of a term of a polynomial above 20");
        rightPolynomial("1 20 20");
        rightPolynomial("1 20 0, 1 0 20");
        wrongPolynomial(2, "1 ^21 0");
        wrongPolynomial(2, "1 0 ^21");
        wrongPolynomial(2, "1 20 20, 1 20 ^21");
    }

    private static void rangesOfPoints() {
        Checks.sentence(0, "A and B above P - 1");
        int[] primes = {13, 17, 31, 37, 89, 97};
        for (int prime : primes) {
            String head = prime == 31 ? "" : "prime " + prime + ";";
            BorderBasis x = right(head + "point " + (prime - 1) + " " + (prime - 1) + "; point 0 0;");
            due(prime - 1, x.point(0, 0));
            due(prime - 1, x.point(0, 1));
            wrong(2, head + "point ^" + prime + " 0;");
            wrong(2, head + "point 0 ^" + prime + ";");
            wrong(2, head + "point ^" + (prime + 1) + " 99;");
        }
        // the prime of the object is not that of the text
        BorderBasis x = right("prime 97;");
        due(NONE, Checks.load(x, "point 31 0;"));
        dueError(x, "", 2, 6);
        due(1, Checks.load(x, "point 30 0;"));
    }

    private static void tooMany() {
        Checks.sentence(0, "the word \"join\" with which there would be 13 monomials");
        right(FULL_ROW);
        wrong(3, FULL_ROW + "^join");
        wrong(3, FULL_ROW + "^join 0 1;");
        wrong(3, FULL_ROW + "\n ^join 12 0;");
        wrong(3, FULL_COLUMN + "^join 99 0;");
        wrong(3, FULL_COLUMN + "^join ?");
        wrong(3, Samples.row(11) + "join 0 1; ^join 0 1;");
        right(Samples.row(11) + "join 0 1;");
        Checks.sentence(0, "the word \"point\" of a 13th point");
        right(TWELVE_POINTS);
        wrong(3, TWELVE_POINTS + "^point");
        wrong(3, TWELVE_POINTS + "^point 20 20;");
        wrong(3, TWELVE_POINTS + "^point 99 0;");
        wrong(3, TWELVE_POINTS + "^point 0 0;");
        right(TWELVE_POINTS + FULL_ROW);
        wrong(3, TWELVE_POINTS + FULL_ROW + "^point 20 20;");
        wrong(3, TWELVE_POINTS + FULL_ROW + "^join 0 1;");
        right(TWELVE_POINTS + FULL_ROW + "rule 0 1 is 1 0 0;");
    }

    private static void wrongMonomials() {
        Checks.sentence(0, "the J of a monomial that cannot join");
        String[] joins = {"join 0 ^0;", "join 1 ^1;", "join 2 ^0;", "join 0 ^2;", "join 11 ^11;", "join 1 0; join 1 ^0;",
            "join 1 0; join 2 ^1;", "join 1 0; join 1 ^1;", "join 0 1; join 1 ^1;", "join 1 ^1", "join 1 ^1 ?"};
        for (String text : joins) {
            wrong(4, text);
        }
        Checks.sentence(0, "the J of a \"rule\" that is no border monomial");
        String[] rules = {"rule 0 ^0 is;", "rule 1 ^1 is;", "rule 2 ^0 is;", "rule 12 ^12 is;", "rule 0 ^12 is;",
            "join 1 0; rule 1 ^0 is;", "join 1 0; rule 0 ^2 is;", "rule 0 ^0 join"};
        for (String text : rules) {
            wrong(4, text);
        }
        wrong(4, FULL_ROW + "rule 12 ^1 is;");
        Checks.sentence(0, "the J of a term of a rule that is not in the order ideal");
        String[] terms = {"rule 1 0 is 0 1 ^0;", "rule 1 0 is 1 0 ^1;", "rule 1 0 is 1 0 0, 1 11 ^11;",
            "join 1 0; rule 2 0 is 5 2 ^0;", "rule 1 0 is - 0 1 ^1", "rule 1 0 is 1 1 ^0 ?"};
        for (String text : terms) {
            wrong(4, text);
        }
    }

    private static void repeated() {
        Checks.sentence(0, "the J of a monomial that an earlier term of the same rule has");
        String[] terms = {"rule 1 0 is 1 0 0, 1 0 ^0;", "rule 1 0 is 0 0 0, -0 0 ^0;", "rule 1 0 is 1 0 0, 2 0 ^0",
            "join 1 0; rule 2 0 is 1 1 0, 2 0 0, 3 1 ^0;", "join 1 0; rule 2 0 is 1 1 0, 2 0 0, 3 0 ^0;"};
        for (String text : terms) {
            wrong(5, text);
        }
        wrong(5, FULL_ROW + "rule 0 1 is 1 11 0, 1 0 0, 1 11 ^0;");
        right("rule 1 0 is 1 0 0; rule 0 1 is 1 0 0; rule 1 0 is 1 0 0;");
        rightPolynomial("1 0 0, 1 0 0, 1 20 20, 1 20 20");
        Checks.sentence(0, "the B of a point that is there already");
        wrong(5, "point 0 0; point 0 ^0;");
        wrong(5, "point 1 2; point 2 1; point 1 ^2;");
        wrong(5, "prime 97; point 96 96; point 96 ^96;");
        right("point 1 2; point 1 3; point 2 2;");
    }

    private static void leastCode() {
        Checks.sentence(0, "The error code is, of several the least");
        // out of range and no monomial that could join, be in the border or in the order ideal
        wrong(2, "join 0 ^12;");
        wrong(2, "rule 0 ^13 is;");
        wrong(2, "rule 1 0 is 1 0 ^12;");
        wrong(2, "rule 1 0 is ^1000 1 0;");
        // not allowed there, though there are 12
        wrong(1, FULL_ROW + "rule 0 ^join");
        wrong(1, FULL_ROW + "rule 0 1 ^join");
        wrong(1, TWELVE_POINTS + "join ^point");
        wrong(1, TWELVE_POINTS + FULL_ROW + "^prime 13;");
        wrong(1, TWELVE_POINTS + FULL_ROW + "^joins");
        wrong(1, TWELVE_POINTS + "^poin");
        // 12 points, and the 13th is there already
        wrong(3, TWELVE_POINTS + "^point 1 1;");
        wrong(3, FULL_ROW + "^join 1 0;");
        Checks.sentence(0, "stops at the first token that is wrong");
        wrong(2, "join ^12 ?");
        wrong(4, "join 1 ^1 ?");
        wrong(2, "point 5 ^99; join 1 1; ?");
        wrong(1, "join 1 0 ^? join 1 1;");
        wrongPolynomial(2, "1 ^21 ?");
        wrongPolynomial(1, "1 0 0 ^? 1000");
    }

    public static void main(String[] args) {
        appendedBytes();
        fullText();
        fullTexts();
        truncated();
        emptyAfterwards();
        emptySetup();
        replaced();
        keptByLoad();
        answersOfLoad();
        failedLoad();
        answersOfReduce();
        failedReduce();
        noErrorAtFirst();
        latestError();
        resultIndex();
        resultAsComputed();
        resultBehind();
        bytes();
        blanks();
        words();
        digits();
        longNumbers();
        grammar();
        tooEarly();
        semicolons();
        terms();
        emptyTerms();
        primeFirst();
        ruleOfText();
        coefficients();
        primes();
        rangesOfMonomials();
        rangesOfPoints();
        tooMany();
        wrongMonomials();
        repeated();
        leastCode();
        Checks.end();
    }
}
