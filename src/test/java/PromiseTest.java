/** Hand-made runs for each promise: ordinary inputs, the edges that the document names, wrong inputs. */
public final class PromiseTest {
    private static final int NONE = BorderBasis.NONE;
    /** {1, x} with x * x = 4 and y = 3 * x: the zeros (2, 6) and (29, 25). */
    private static final String TWO_ZEROS = "join 1 0; rule 2 0 is 4 0 0; rule 0 1 is 3 1 0; rule 1 1 is 12 0 0;";
    /** As before, but x * y = 13 instead of 12. */
    private static final String CLASHING = "join 1 0; rule 2 0 is 4 0 0; rule 0 1 is 3 1 0; rule 1 1 is 13 0 0;";
    /** {1, x} with x * x = 3, no square modulo 31, and y = 0. */
    private static final String OUTSIDE = "join 1 0; rule 2 0 is 3 0 0;";
    private static final String ROW_OF_TWELVE = "join 1 0;join 2 0;join 3 0;join 4 0;join 5 0;join 6 0;"
        + "join 7 0;join 8 0;join 9 0;join 10 0;join 11 0;";
    private static final String TWELVE_POINTS = "point 0 0;point 0 1;point 0 2;point 0 3;point 0 4;point 0 5;"
        + "point 0 6;point 0 7;point 0 8;point 0 9;point 0 10;point 0 11;";

    private PromiseTest() {
    }

    private static void due(Object want, Object got) {
        Checks.due(want, got);
    }

    private static void dueThrow(String exception, Checks.Call call) {
        Checks.dueThrow(exception, call);
    }

    /** (1, 1), (2, 4), (3, 9) and their border basis: {1, x, y}, with x * x = y. */
    private static BorderBasis parabola() {
        BorderBasis x = Checks.loaded("point 1 1; point 2 4; point 3 9;");
        x.fit();
        return x;
    }

    private static void newObject() {
        Checks.promise(1, "A new object");
        BorderBasis x = new BorderBasis();
        int[] counts = {31, 1, 2, 0, 0, 0, 2, 0};
        for (int what = 0; what < counts.length; what++) {
            due(counts[what], x.count(what));
        }
        for (int kind = 0; kind < 6; kind++) {
            due(0, x.changes(kind));
        }
        due(0, x.monomial(0, 0));
        due(0, x.monomial(0, 1));
        due(0, x.rule(0, 0));
        due(0, x.rule(1, 0));
        due(0, x.errorCode());
        due(NONE, x.errorPosition());
        due(0, x.result(0));
        due(NONE, x.undo());
        due(0, x.truncateText(0));
        dueThrow(Checks.ARGUMENT, () -> x.truncateText(1));
        dueThrow(Checks.INDEX, () -> x.point(0, 0));
        for (int slot = 0; slot < 2; slot++) {
            int there = slot;
            dueThrow(Checks.STATE, () -> {
                x.restore(there);
                return null;
            });
        }
    }

    private static void appendText() {
        Checks.promise(2, "appendText");
        BorderBasis x = new BorderBasis();
        due(4, x.appendText(0x6A6F696E));
        due(8, x.appendText(0x20312030));
        due(12, x.appendText(0x3B202020));
        due(2, x.load());
        due(4, x.appendText(-1));
        due(NONE, x.load());
        due(0, x.errorPosition());
        for (int k = 1; k <= 225; k++) {
            due(4 * k, x.appendText(0x20202020));
        }
        dueThrow(Checks.STATE, () -> x.appendText(0x20202020));
        due(897, x.truncateText(897));
        dueThrow(Checks.STATE, () -> x.appendText(0x20202020));
        due(896, x.truncateText(896));
        due(900, x.appendText(0x20202059));
        due(NONE, x.load());
        due(1, x.errorCode());
        due(899, x.errorPosition());
    }

    private static void truncateText() {
        Checks.promise(3, "truncateText");
        BorderBasis x = new BorderBasis();
        Checks.send(x, "join 1 0;$");
        dueThrow(Checks.ARGUMENT, () -> x.truncateText(-1));
        dueThrow(Checks.ARGUMENT, () -> x.truncateText(11));
        due(10, x.truncateText(10));
        due(9, x.truncateText(9));
        dueThrow(Checks.ARGUMENT, () -> x.truncateText(10));
        due(2, x.load());
        dueThrow(Checks.ARGUMENT, () -> x.truncateText(1));
        due(0, x.truncateText(0));
        x.appendText(0x20202020);
        due(0, x.truncateText(0));
        due(4, x.appendText(0x20202020));
    }

    private static void load() {
        Checks.promise(4, "load");
        BorderBasis x = Checks.loaded("prime 37;\n join 1 0 ;join0 1;rule 2 0 is 5 0 0,-1 1 0, -  40 0 1;"
            + "rule 1 1 is ;rule 0 2 is 999 0 1; point 36 0; point 0 36;\n");
        due(37, x.count(0));
        due(3, x.count(1));
        due(2, x.count(4));
        // 40 is 3, and 999 is 27 times 37
        dueRules(x, new int[][] {{5, 36, 34}, {0, 0, 0}, {0, 0, 0}});
        due(36, x.point(0, 0));
        due(36, x.point(1, 1));
    }

    private static void loadReplaces() {
        Checks.promise(4, "load");
        BorderBasis x = parabola();
        Checks.reduce(x, "7 1 0");
        x.save(0);
        due(1, x.changes(5));
        due(1, Checks.load(x, " \n"));
        due(31, x.count(0));
        due(2, x.count(2));
        due(0, x.count(3));
        due(0, x.count(4));
        due(0, x.count(5));
        due(0, x.changes(5));
        due(NONE, x.undo());
        due(7, x.result(1));
        x.restore(0);
        due(3, x.count(1));
        due(2, Checks.load(x, "prime 13; join 1 0; rule 2 0 is 999 1 0, 1 0 0; rule 2 0 is 3 1 0;"));
        due(13, x.count(0));
        due(0, x.rule(1, 0));
        due(3, x.rule(1, 1));
        due(1, Checks.load(x, ""));
        due(31, x.count(0));
        x.setRule(0, 0, 30);
        due(NONE, Checks.load(x, "prime 17; join 1 0; point 1 1; point 1 1;"));
        due(31, x.count(0));
        due(1, x.count(1));
        due(0, x.count(4));
        due(30, x.rule(0, 0));
        due(1, x.changes(2));
        due(0, x.truncateText(0));
        dueThrow(Checks.ARGUMENT, () -> x.truncateText(1));
        due(0, x.undo());
    }

    private static void primes() {
        Checks.promise(4, "load");
        String primes = " 13 17 19 23 29 31 37 41 43 47 53 59 61 67 71 73 79 83 89 97 ";
        BorderBasis x = new BorderBasis();
        for (int number = 0; number <= 110; number++) {
            boolean right = primes.contains(" " + number + " ");
            due(right ? 1 : NONE, Checks.load(x, "prime " + number + ";"));
            due(right ? 0 : 2, x.errorCode());
            due(right ? NONE : 6, x.errorPosition());
        }
        due(97, x.count(0));
    }

    /** A text must not find what an earlier one has left. */
    private static void loadAgain() {
        Checks.promise(4, "load");
        BorderBasis x = Checks.loaded("prime 13; rule 1 0 is 5 0 0; rule 0 1 is 6 0 0; point 1 2;");
        due(1, Checks.load(x, "point 3 4;"));
        due(31, x.count(0));
        due(0, x.count(3));
        due(1, x.count(4));
        due(3, x.point(0, 0));
        due(NONE, Checks.load(x, "rule 1 0 is 5 0 0; join 1 0; join 2 0; rule 3 0 is 1 0 0; point 0 0; ?"));
        due(0, x.count(3));
        due(2, Checks.load(x, "join 0 1;"));
        due(0, x.count(3));
        due(0, x.count(4));
        due(NONE, Checks.reduce(x, "7 0 1, 5 0 0, 1"));
        due(1, Checks.reduce(x, "1 0 0"));
        dueResult(x, 1);
    }

    private static void dueError(boolean isSetup, String text, int code, int position) {
        BorderBasis x = new BorderBasis();
        int answer = isSetup ? Checks.load(x, text) : Checks.reduce(x, text);
        due(code == 0, answer != NONE);
        due("'" + text + "' " + code, "'" + text + "' " + x.errorCode());
        due("'" + text + "' " + position, "'" + text + "' " + x.errorPosition());
    }

    private static void setupErrors() {
        Checks.promise(6, "errorCode");
        Object[][] cases = {
            {"", 0, NONE}, {"\n \n", 0, NONE}, {";", 1, 0}, {"join", 1, 4}, {"join ", 1, 5}, {"join 1", 1, 6},
            {"join 1 0", 1, 8}, {"join 1 0 \n", 1, 10}, {"join 1 0;;", 1, 9}, {"Join 1 0;", 1, 0},
            {"zoin 1 0;", 1, 0}, {"joinz 1 0;", 1, 0}, {"joina 1 0;", 1, 0}, {"rule 1 0 as;", 1, 9},
            {"join`1 0;", 1, 4}, {"join{1 0;", 1, 4}, {"join 1/0;", 1, 6}, {"join 1:0;", 1, 6}, {"join 1 9;", 4, 7},
            {"joins 1 0;", 1, 0}, {"joi 1 0;", 1, 0}, {"join 1,0;", 1, 6}, {"join 10;", 1, 7}, {"join 1 -0;", 1, 7},
            {"join 1 0 0;", 1, 9}, {"join 1 0$;", 1, 8}, {"join 12 $", 2, 5}, {"\tjoin 1 0;", 1, 0},
            {"join\r1 0;", 1, 4}, {"join 1 0;\u0000", 1, 9}, {"join 1 0;\u00e9", 1, 9}, {"is 1 0;", 1, 0},
            {"prime 31; prime 31;", 1, 10}, {"join 1 0; prime 31;", 1, 10}, {"prime;", 1, 5}, {"prime -13;", 1, 6},
            {"prime 11;", 2, 6}, {"prime 12;", 2, 6}, {"prime 15;", 2, 6}, {"prime 49;", 2, 6}, {"prime 77;", 2, 6},
            {"prime 91;", 2, 6}, {"prime 95;", 2, 6}, {"prime 98;", 2, 6}, {"prime 101;", 2, 6}, {"prime 0;", 2, 6},
            {"prime 18446744073709551629;", 2, 6}, {"prime 4294967309;", 2, 6}, {"prime 13;", 0, NONE},
            {"prime 97;", 0, NONE}, {"prime 00000000000000000000000097;", 0, NONE},
            {"join 12 0;", 2, 5}, {"join 0 12;", 2, 7}, {"join 4294967297 0;", 2, 5}, {"join 1 1;", 4, 7},
            {"join 0 0;", 4, 7}, {"join 11 11;", 4, 8}, {"join 1 0;join 1 0;", 4, 16}, {"join1 0;", 0, NONE},
            {"join 01 000;join 0 1;", 0, NONE},
            {ROW_OF_TWELVE, 0, NONE}, {ROW_OF_TWELVE + "join 0 1;", 3, ROW_OF_TWELVE.length()},
            {ROW_OF_TWELVE + "join", 3, ROW_OF_TWELVE.length()},
            {ROW_OF_TWELVE + "joins", 1, ROW_OF_TWELVE.length()},
            {ROW_OF_TWELVE + "rule 12 0 is 1 11 0", 1, ROW_OF_TWELVE.length() + 19},
            {ROW_OF_TWELVE + "rule 12 0 is 1 11 0;", 0, NONE},
            {"rule 13 0 is;", 2, 5}, {"rule 0 13 is;", 2, 7}, {"rule 12 0 is;", 4, 8}, {"rule 0 12 is;", 4, 7},
            {"rule 0 0 is;", 4, 7}, {"rule 1 1 is;", 4, 7}, {"rule 1 0 is", 1, 11}, {"rule 1 0 is;", 0, NONE},
            {"rule 1 0;", 1, 8}, {"rule 1 0 5 0 0;", 1, 9}, {"rule 1 0 iss;", 1, 9}, {"rule 1 0 is 5 0 0;", 0, NONE},
            {"rule 1 0 is 999 0 0;", 0, NONE}, {"rule 1 0 is 1000 0 0;", 2, 12}, {"rule 1 0 is 5 12 0;", 2, 14},
            {"rule 1 0 is 5 0 12;", 2, 16}, {"rule 1 0 is 5 11 11;", 4, 17}, {"rule 1 0 is 5 1 0;", 4, 16},
            {"rule 1 0 is 5 0 0, 6 0 0;", 5, 23}, {"rule 1 0 is 0 0 0, -0 0 0;", 5, 24},
            {"rule 1 0 is 5 0 0; rule 1 0 is 6 0 0;", 0, NONE}, {"rule 1 0 is 5 0 0,;", 1, 18},
            {"rule 1 0 is 5 0 0 6 0 0;", 1, 18}, {"rule 1 0 is, 5 0 0;", 1, 11}, {"rule 1 0 is - 5 0 0;", 0, NONE},
            {"rule 1 0 is --5 0 0;", 1, 13}, {"rule 1 0 is -;", 1, 13}, {"rule 1 0 is - 1000 0 0;", 2, 14},
            {"rule 1 0 is 5 -0 0;", 1, 14}, {"point 31 0;", 2, 6}, {"point 0 31;", 2, 8}, {"point 30 30;", 0, NONE},
            {"prime 29; point 29 0;", 2, 16}, {"prime 37; point 36 36;", 0, NONE}, {"point 1 1; point 1 1;", 5, 19},
            {"point 1 2; point 2 1;", 0, NONE}, {"point 1 1; point 1 31;", 2, 19}, {"point", 1, 5},
            {"points 1 1;", 1, 0},
            {TWELVE_POINTS, 0, NONE}, {TWELVE_POINTS + "point 0 0;", 3, TWELVE_POINTS.length()},
            {TWELVE_POINTS + "point", 3, TWELVE_POINTS.length()}};
        for (Object[] row : cases) {
            dueError(true, (String) row[0], (Integer) row[1], (Integer) row[2]);
        }
    }

    private static void polynomialErrors() {
        Checks.promise(7, "errorPosition");
        Object[][] cases = {
            {"", 1, 0}, {"  ", 1, 2}, {"1 0 0", 0, NONE}, {" 1 0 0 ", 0, NONE}, {"1 0 0;", 1, 5}, {"1 0 0,", 1, 6},
            {"1 0 0, ", 1, 7}, {"1 0", 1, 3}, {"x", 1, 0}, {",1 0 0", 1, 0}, {"-1 0 0", 0, NONE}, {"-", 1, 1},
            {"--1 0 0", 1, 1}, {"1 20 20", 0, NONE}, {"1 21 0", 2, 2}, {"1 0 21", 2, 4}, {"1000 0 0", 2, 0},
            {"-1000 0 0", 2, 1}, {"999 0 0", 0, NONE}, {"1 0 0 1 0 0", 1, 6}, {"1 0 0,1 0 0", 0, NONE},
            {"1 99999999999999999999999 0", 2, 2}, {"1 0 0,1 0 0?", 1, 11}, {"1 0 0,join", 1, 6}, {"1 0 0is", 1, 5}};
        for (Object[] row : cases) {
            dueError(false, (String) row[0], (Integer) row[1], (Integer) row[2]);
        }
        BorderBasis x = new BorderBasis();
        Checks.load(x, "join 1 1;");
        due(4, x.errorCode());
        due(7, x.errorPosition());
        x.join(1, 0);
        dueThrow(Checks.STATE, () -> x.join(1, 0));
        due(4, x.errorCode());
        Checks.reduce(x, "1 1 0");
        due(0, x.errorCode());
        due(NONE, x.errorPosition());
        Checks.reduce(x, "1 1");
        due(1, x.errorCode());
        due(3, x.errorPosition());
        x.undo();
        due(3, x.errorPosition());
        Checks.load(x, "");
        due(0, x.errorCode());
        due(NONE, x.errorPosition());
    }

    private static void dueResult(BorderBasis x, int... numbers) {
        for (int k = 0; k < 12; k++) {
            due(k < numbers.length ? numbers[k] : 0, x.result(k));
        }
    }

    private static void reduce() {
        Checks.promise(5, "reduce");
        BorderBasis x = parabola();
        due(1, Checks.reduce(x, "1 2 0"));
        dueResult(x, 0, 0, 1);
        due(2, Checks.reduce(x, "3 2 0, -2 0 1, 36 0 0"));
        dueResult(x, 5, 0, 1);
        due(0, Checks.reduce(x, "1 2 0, -1 0 1"));
        dueResult(x);
        due(1, Checks.reduce(x, "1 1 0, 1 1 0"));
        dueResult(x, 0, 2);
        // 2 to the 60th and 3 to the 60th power are 1 modulo 31
        due(1, Checks.reduce(x, "1 20 20"));
        dueResult(x, 1);
        due(NONE, Checks.reduce(x, "5 0 0, 1 0 21"));
        dueResult(x, 1);
        dueThrow(Checks.ARGUMENT, () -> x.truncateText(1));
        due(3, x.count(1));
        due(1, Checks.reduce(x, "31 1 0, 30 0 1"));
        dueResult(x, 0, 0, 30);
        due(1, x.count(5));
        // Y comes first: X * Y * e is 3 * X * x, whatever the rule of x * y says
        BorderBasis y = Checks.loaded(CLASHING);
        due(1, Checks.reduce(y, "1 1 1"));
        dueResult(y, 12);
        BorderBasis z = Checks.loaded("prime 13; rule 1 0 is 5 0 0; rule 0 1 is 2 0 0;");
        due(1, Checks.reduce(z, "-999 0 0, 3 2 1"));
        dueResult(z, ((-999 + 3 * 25 * 2) % 13 + 13) % 13);
    }

    private static void result() {
        Checks.promise(8, "result");
        BorderBasis x = parabola();
        dueThrow(Checks.INDEX, () -> x.result(-1));
        dueThrow(Checks.INDEX, () -> x.result(12));
        due(0, x.result(11));
        Checks.reduce(x, "1 0 0, 2 1 0, 3 0 1");
        dueResult(x, 1, 2, 3);
        x.leave(0, 1);
        x.setRule(0, 0, 4);
        dueResult(x, 1, 2, 3);
        Checks.load(x, "");
        dueResult(x, 1, 2, 3);
        Checks.reduce(x, "9 0 0");
        dueResult(x, 9);
    }

    private static void count() {
        Checks.promise(9, "count");
        BorderBasis x = new BorderBasis();
        dueThrow(Checks.ARGUMENT, () -> x.count(-1));
        dueThrow(Checks.ARGUMENT, () -> x.count(8));
        x.join(1, 0);
        x.join(0, 1);
        x.join(2, 0);
        // {1, x, y, xx} with the border xy, yy, xxx, xxy
        int[] counts = {31, 4, 4, 0, 0, 3, 3, 2};
        for (int what = 0; what < counts.length; what++) {
            due(counts[what], x.count(what));
        }
        x.setRule(0, 0, 5);
        x.setRule(3, 3, 30);
        x.setRule(3, 2, 0);
        due(2, x.count(3));
        for (int k = 0; k < 4; k++) {
            x.addPoint(k, 0);
        }
        due(4, x.count(4));
        due(8, x.count(5));
        x.undo();
        due(7, x.count(5));
        due(3, x.count(4));
        BorderBasis row = Checks.loaded(ROW_OF_TWELVE);
        due(12, row.count(1));
        due(13, row.count(2));
        // (12, 0) is outside of 0 to 11; (0, 1) can join though there are 12
        due(1, row.count(6));
        due(1, row.count(7));
        row.leave(11, 0);
        due(2, row.count(6));
        BorderBasis high = new BorderBasis();
        for (int j = 1; j < 11; j++) {
            high.join(0, j);
        }
        due(2, high.count(6));
        high.join(0, 11);
        due(1, high.count(6));
        due(97, Checks.loaded("prime 97;").count(0));
    }

    private static void changes() {
        Checks.promise(10, "changes");
        BorderBasis x = new BorderBasis();
        dueThrow(Checks.ARGUMENT, () -> x.changes(-1));
        dueThrow(Checks.ARGUMENT, () -> x.changes(6));
        x.join(1, 0);
        x.join(0, 1);
        x.leave(0, 1);
        x.setRule(0, 0, 0);
        x.setRule(0, 0, 0);
        x.setRule(0, 0, 1);
        x.addPoint(1, 1);
        x.addPoint(2, 2);
        x.addPoint(3, 3);
        x.addPoint(4, 4);
        x.removePoint(0);
        x.fit();
        int[] counts = {2, 1, 3, 4, 1, 1};
        for (int kind = 0; kind < 6; kind++) {
            due(counts[kind], x.changes(kind));
        }
        dueThrow(Checks.STATE, () -> x.join(0, 0));
        dueThrow(Checks.STATE, () -> x.leave(0, 0));
        dueThrow(Checks.INDEX, () -> x.setRule(9, 0, 0));
        dueThrow(Checks.STATE, () -> x.addPoint(4, 4));
        dueThrow(Checks.INDEX, () -> x.removePoint(3));
        x.undo();
        x.save(0);
        x.restore(0);
        for (int kind = 0; kind < 6; kind++) {
            due(counts[kind], x.changes(kind));
        }
        due(NONE, Checks.load(x, "?"));
        due(4, x.changes(3));
        due(1, Checks.load(x, ""));
        for (int kind = 0; kind < 6; kind++) {
            due(0, x.changes(kind));
        }
        dueThrow(Checks.STATE, () -> x.fit());
        due(0, x.changes(5));
    }

    private static void refusal() {
        Checks.promise(11, "refusal");
        BorderBasis x = Checks.loaded("join 1 0; join 2 0; join 0 1;");
        due(1, x.refusal(0, 0));
        due(1, x.refusal(2, 0));
        due(0, x.refusal(3, 0));
        due(0, x.refusal(1, 1));
        due(0, x.refusal(0, 2));
        due(2, x.refusal(2, 1));
        due(2, x.refusal(1, 2));
        due(2, x.refusal(11, 11));
        int[][] outside = {{-1, 0}, {0, -1}, {12, 0}, {0, 12}};
        for (int[] m : outside) {
            dueThrow(Checks.ARGUMENT, () -> x.refusal(m[0], m[1]));
        }
        BorderBasis row = Checks.loaded(ROW_OF_TWELVE);
        due(1, row.refusal(11, 0));
        due(2, row.refusal(1, 1));
        due(3, row.refusal(0, 1));
    }

    private static void join() {
        Checks.promise(12, "join");
        BorderBasis x = new BorderBasis();
        due(1, x.join(0, 1));
        due(1, x.join(1, 0));
        due(3, x.join(0, 2));
        due(3, x.join(2, 0));
        int[][] refused = {{0, 0}, {1, 0}, {2, 1}, {4, 0}};
        for (int[] m : refused) {
            dueThrow(Checks.STATE, () -> x.join(m[0], m[1]));
        }
        int[][] outside = {{-1, 0}, {0, -1}, {12, 0}, {0, 12}, {Integer.MIN_VALUE, Integer.MAX_VALUE}};
        for (int[] m : outside) {
            dueThrow(Checks.ARGUMENT, () -> x.join(m[0], m[1]));
        }
        due(5, x.count(1));
        due(4, x.count(5));
        BorderBasis row = Checks.loaded(ROW_OF_TWELVE);
        dueThrow(Checks.STATE, () -> row.join(0, 1));
        dueThrow(Checks.ARGUMENT, () -> row.join(12, 0));
        // the rule of xx is lost, those that stay get 0 for it, new ones are 0
        BorderBasis y = Checks.loaded(TWO_ZEROS);
        due(2, y.join(2, 0));
        int[][] rules = {{0, 3, 0}, {12, 0, 0}, {0, 0, 0}, {0, 0, 0}};
        dueRules(y, rules);
        due(2, y.join(0, 1));
        due(NONE, y.place(0, 3));
        // y has joined in front of xx: xy keeps its rule, yy is new
        int[][] more = {{12, 0, 0, 0}, {0, 0, 0, 0}, {0, 0, 0, 0}, {0, 0, 0, 0}};
        dueRules(y, more);
        due(1, y.undo());
        dueRules(y, rules);
    }

    private static void dueRules(BorderBasis x, int[][] rules) {
        due(rules.length, x.count(2));
        for (int k = 0; k < rules.length; k++) {
            due(rules[k].length, x.count(1));
            for (int m = 0; m < rules[k].length; m++) {
                due(rules[k][m], x.rule(k, m));
            }
        }
    }

    private static void leave() {
        Checks.promise(13, "leave");
        BorderBasis x = Checks.loaded("join 1 0; join 0 1; join 2 0; join 1 1;"
            + "rule 0 2 is 1 0 0, 2 1 0, 3 0 1, 4 2 0, 5 1 1; rule 3 0 is 6 0 1, 7 1 1; rule 2 1 is 8 1 0;"
            + "rule 1 2 is 9 0 0;");
        int[][] refused = {{0, 0}, {1, 0}, {0, 1}, {3, 0}, {5, 5}};
        for (int[] m : refused) {
            dueThrow(Checks.STATE, () -> x.leave(m[0], m[1]));
        }
        int[][] outside = {{-1, 0}, {0, -1}, {12, 0}, {0, 12}};
        for (int[] m : outside) {
            dueThrow(Checks.ARGUMENT, () -> x.leave(m[0], m[1]));
        }
        due(0, x.count(5));
        due(3, x.leave(2, 0));
        // border now xx (new), yy, xxy, xyy: the rule of xxx is lost, the coefficient of xx too
        int[][] rules = {{0, 0, 0, 0}, {1, 2, 3, 5}, {0, 8, 0, 0}, {9, 0, 0, 0}};
        dueRules(x, rules);
        due(3, x.leave(1, 1));
        due(2, x.leave(0, 1));
        due(1, x.leave(1, 0));
        dueThrow(Checks.STATE, () -> x.leave(0, 0));
        due(4, x.changes(1));
        BorderBasis row = Checks.loaded(ROW_OF_TWELVE);
        due(11, row.leave(11, 0));
        dueThrow(Checks.STATE, () -> row.leave(9, 0));
    }

    private static void numbering() {
        Checks.promise(14, "monomial");
        BorderBasis x = Checks.loaded("join 0 1; join 1 0; join 0 2; join 1 1; join 0 3;");
        int[][] monomials = {{0, 0}, {1, 0}, {0, 1}, {1, 1}, {0, 2}, {0, 3}};
        for (int k = 0; k < monomials.length; k++) {
            due(monomials[k][0], x.monomial(k, 0));
            due(monomials[k][1], x.monomial(k, 1));
            due(k, x.place(monomials[k][0], monomials[k][1]));
        }
        dueThrow(Checks.INDEX, () -> x.monomial(-1, 0));
        dueThrow(Checks.INDEX, () -> x.monomial(6, 0));
        dueThrow(Checks.INDEX, () -> x.monomial(6, 2));
        dueThrow(Checks.ARGUMENT, () -> x.monomial(5, -1));
        dueThrow(Checks.ARGUMENT, () -> x.monomial(5, 2));
        Checks.promise(15, "border");
        int[][] borders = {{2, 0}, {2, 1}, {1, 2}, {1, 3}, {0, 4}};
        for (int k = 0; k < borders.length; k++) {
            due(borders[k][0], x.border(k, 0));
            due(borders[k][1], x.border(k, 1));
        }
        dueThrow(Checks.INDEX, () -> x.border(-1, 0));
        dueThrow(Checks.INDEX, () -> x.border(5, 0));
        dueThrow(Checks.INDEX, () -> x.border(5, -1));
        dueThrow(Checks.ARGUMENT, () -> x.border(4, -1));
        dueThrow(Checks.ARGUMENT, () -> x.border(4, 2));
        BorderBasis row = Checks.loaded(ROW_OF_TWELVE);
        due(12, row.border(11, 0));
        due(0, row.border(11, 1));
        due(11, row.border(12, 0));
        due(1, row.border(12, 1));
        Checks.promise(16, "place");
        for (int k = 0; k < borders.length; k++) {
            due(100 + k, x.place(borders[k][0], borders[k][1]));
        }
        int[][] nowhere = {{2, 2}, {3, 0}, {0, 5}, {-1, 0}, {0, -1}, {13, 0}, {0, 13}, {14, 14},
            {Integer.MAX_VALUE, 0}, {0, Integer.MIN_VALUE}, {1 << 16, 1 << 16}, {-1, 1}, {1, -1}};
        for (int[] m : nowhere) {
            due(NONE, x.place(m[0], m[1]));
        }
        due(111, row.place(12, 0));
        due(112, row.place(11, 1));
        due(NONE, row.place(12, 1));
    }

    private static void rules() {
        Checks.promise(17, "setRule");
        BorderBasis x = Checks.loaded("join 1 0;");
        due(0, x.setRule(1, 0, 4));
        due(4, x.setRule(1, 0, 30));
        due(30, x.setRule(1, 0, 30));
        due(0, x.setRule(2, 1, 7));
        dueThrow(Checks.INDEX, () -> x.setRule(3, 0, 0));
        dueThrow(Checks.INDEX, () -> x.setRule(-1, 0, 0));
        dueThrow(Checks.INDEX, () -> x.setRule(0, 2, 0));
        dueThrow(Checks.INDEX, () -> x.setRule(0, -1, 0));
        dueThrow(Checks.INDEX, () -> x.setRule(0, 2, 31));
        dueThrow(Checks.ARGUMENT, () -> x.setRule(0, 0, 31));
        dueThrow(Checks.ARGUMENT, () -> x.setRule(0, 0, -1));
        due(4, x.changes(2));
        due(4, x.count(5));
        Checks.promise(18, "rule");
        dueRules(x, new int[][] {{0, 0}, {30, 0}, {0, 7}});
        dueThrow(Checks.INDEX, () -> x.rule(3, 0));
        dueThrow(Checks.INDEX, () -> x.rule(-1, 0));
        dueThrow(Checks.INDEX, () -> x.rule(0, 2));
        dueThrow(Checks.INDEX, () -> x.rule(0, -1));
        Checks.promise(19, "value");
        // y, xx - 30, xy - 7 * x at (3, 5) and (0, 0)
        due(5, x.value(0, 3, 5));
        due(10, x.value(1, 3, 5));
        due(25, x.value(2, 3, 5));
        due(1, x.value(1, 0, 0));
        due(0, x.value(2, 0, 0));
        due(1, x.value(2, 30, 6));
        dueThrow(Checks.INDEX, () -> x.value(3, 0, 0));
        dueThrow(Checks.INDEX, () -> x.value(-1, 99, 0));
        dueThrow(Checks.ARGUMENT, () -> x.value(0, 31, 0));
        dueThrow(Checks.ARGUMENT, () -> x.value(0, 0, 31));
        dueThrow(Checks.ARGUMENT, () -> x.value(0, -1, 0));
        dueThrow(Checks.ARGUMENT, () -> x.value(0, 0, -1));
        // x to the 12th less 1: the value of the power 0 is 1, also at 0
        BorderBasis row = Checks.loaded("prime 13;" + ROW_OF_TWELVE + "rule 12 0 is 1 0 0;");
        due(0, row.value(11, 5, 0));
        due(12, row.value(11, 0, 0));
    }

    private static void tables() {
        Checks.promise(20, "table");
        BorderBasis x = Checks.loaded(TWO_ZEROS);
        int[][][] tables = {{{0, 4}, {1, 0}}, {{0, 12}, {3, 0}}};
        for (int variable = 0; variable < 2; variable++) {
            for (int row = 0; row < 2; row++) {
                due(tables[variable][row][0], x.table(variable, row, 0));
                due(tables[variable][row][1], x.table(variable, row, 1));
            }
        }
        dueThrow(Checks.INDEX, () -> x.table(0, 2, 0));
        dueThrow(Checks.INDEX, () -> x.table(0, 0, 2));
        dueThrow(Checks.INDEX, () -> x.table(0, -1, 0));
        dueThrow(Checks.INDEX, () -> x.table(2, 0, -1));
        dueThrow(Checks.ARGUMENT, () -> x.table(2, 1, 1));
        dueThrow(Checks.ARGUMENT, () -> x.table(-1, 0, 0));
        x.setRule(0, 0, 9);
        due(9, x.table(1, 0, 0));
        x.undo();
        due(0, x.table(1, 0, 0));
        x.join(0, 1);
        due(1, x.table(1, 2, 0));
        due(0, x.table(1, 1, 0));
        due(0, x.table(1, 2, 2));
        x.addPoint(5, 6);
        x.fit();
        due(5, x.table(0, 0, 0));
        due(6, x.table(1, 0, 0));
        Checks.load(x, "rule 1 0 is 8 0 0;");
        due(8, x.table(0, 0, 0));
    }

    private static void clash() {
        Checks.promise(21, "commutes");
        BorderBasis good = Checks.loaded(TWO_ZEROS);
        BorderBasis bad = Checks.loaded(CLASHING);
        due(true, good.commutes());
        due(false, bad.commutes());
        due(true, new BorderBasis().commutes());
        due(12, good.setRule(2, 0, 13));
        due(false, good.commutes());
        good.undo();
        due(true, good.commutes());
        Checks.promise(22, "clash");
        dueClash(bad, 0, 0, 12, 13, 2);
        dueClash(good, NONE, NONE, NONE, NONE, 0);
        dueThrow(Checks.ARGUMENT, () -> good.clash(-1));
        dueThrow(Checks.ARGUMENT, () -> bad.clash(5));
        // {1, x, y}: in column 0 both are the rule of xy, always
        dueClash(Checks.loaded("join 1 0; join 0 1; rule 2 0 is 1 0 0;"), 1, 2, 0, 1, 1);
        // column 1: 10 + 12 * x and 12 * x + 5 * y; column 2: 0 and 4 * x
        dueClash(Checks.loaded("join 1 0; join 0 1; rule 2 0 is 5 0 0, 6 1 0; rule 1 1 is 2 1 0;"), 1, 0, 10, 0, 3);
    }

    private static void dueClash(BorderBasis x, int... clash) {
        for (int what = 0; what < 5; what++) {
            due(clash[what], x.clash(what));
        }
    }

    private static void powers() {
        Checks.promise(23, "trace");
        BorderBasis x = Checks.loaded(TWO_ZEROS);
        due(2, x.trace(0, 0));
        due(0, x.trace(1, 0));
        due(8, x.trace(2, 0));
        due(24, x.trace(1, 1));
        due(0, x.trace(0, 1));
        // 2 to the 22nd is 4, 6 to the 22nd is 36 to the 11th = 5 to the 11th = 5 * 5 = 25 (5 has order 3)
        due(4 * 25 * 2 % 31, x.trace(22, 22));
        int[][] outside = {{-1, 0}, {0, -1}, {23, 0}, {0, 23}};
        for (int[] m : outside) {
            dueThrow(Checks.ARGUMENT, () -> x.trace(m[0], m[1]));
        }
        due(25, Checks.loaded(CLASHING).trace(1, 1));
        Checks.promise(24, "normal");
        due(1, x.normal(0, 0, 0));
        due(0, x.normal(0, 0, 1));
        due(12, x.normal(2, 1, 1));
        due(0, x.normal(2, 1, 0));
        due(4, x.normal(3, 0, 1));
        due(4 * 25 % 31, x.normal(22, 22, 0));
        dueThrow(Checks.INDEX, () -> x.normal(0, 0, 2));
        dueThrow(Checks.INDEX, () -> x.normal(23, 0, -1));
        for (int[] m : outside) {
            dueThrow(Checks.ARGUMENT, () -> x.normal(m[0], m[1], 0));
        }
        due(12, Checks.loaded(CLASHING).normal(1, 1, 0));
        Checks.promise(25, "determinant");
        due(27, x.determinant(0));
        due(26, x.determinant(1));
        due(0, new BorderBasis().determinant(0));
        due(9, Checks.loaded("rule 1 0 is 9 0 0;").determinant(0));
        dueThrow(Checks.ARGUMENT, () -> x.determinant(-1));
        dueThrow(Checks.ARGUMENT, () -> x.determinant(2));
        // (1, 1), (2, 4), (3, 9): the products of the coordinates
        due(6, parabola().determinant(0));
        due(5, parabola().determinant(1));
        Checks.promise(26, "kernel");
        due(1, x.kernel(0, 2));
        due(0, x.kernel(0, 3));
        due(1, x.kernel(1, 25));
        due(0, x.kernel(1, 2));
        dueThrow(Checks.ARGUMENT, () -> x.kernel(-1, 0));
        dueThrow(Checks.ARGUMENT, () -> x.kernel(2, 0));
        dueThrow(Checks.ARGUMENT, () -> x.kernel(0, -1));
        dueThrow(Checks.ARGUMENT, () -> x.kernel(0, 31));
        BorderBasis square = Checks.loaded("point 5 1; point 5 2; point 5 3; point 6 1;");
        square.fit();
        due(3, square.kernel(0, 5));
        due(2, square.kernel(1, 1));
        due(0, square.kernel(0, 30));
        due(30, Checks.loaded("rule 1 0 is 30 0 0;").table(0, 0, 0));
        due(1, Checks.loaded("rule 1 0 is 30 0 0;").kernel(0, 30));
    }

    private static void zeros() {
        Checks.promise(27, "zeros");
        dueZeros(Checks.loaded(TWO_ZEROS), 2, 2, 2);
        dueZeros(Checks.loaded(CLASHING), 0, NONE, NONE);
        dueZeros(Checks.loaded(OUTSIDE), 0, 2, 0);
        dueZeros(new BorderBasis(), 1, 1, 1);
        dueZeros(Checks.loaded("join 1 0;"), 1, 1, 2);
        dueZeros(Checks.loaded("join 1 0; join 0 1;"), 1, 1, 3);
        dueZeros(parabola(), 3, 3, 3);
        // x * x = 3 together with a double zero of y: {1, x, y, xy}
        dueZeros(Checks.loaded("join 1 0; join 0 1; join 1 1; rule 2 0 is 3 0 0; rule 2 1 is 3 0 1;"), 0, 2, 0);
        // x * (x - 1) * (x * x - 3), y = 0
        BorderBasis mixed = Checks.loaded("join 1 0; join 2 0; join 3 0; rule 4 0 is 1 3 0, 3 2 0, -3 1 0;");
        dueZeros(mixed, 2, 4, 2);
        BorderBasis row = Checks.loaded("prime 13;" + ROW_OF_TWELVE + "rule 12 0 is 1 0 0;");
        dueZeros(row, 12, 12, 12);
        BorderBasis thick = Checks.loaded(ROW_OF_TWELVE);
        dueZeros(thick, 1, 1, 12);
        dueThrow(Checks.ARGUMENT, () -> thick.zeros(-1));
        dueThrow(Checks.ARGUMENT, () -> thick.zeros(3));
        // zeros are there without commuting tables, too
        BorderBasis x = Checks.loaded("point 1 1; point 2 4; point 3 9; point 4 5;");
        x.fit();
        dueZeros(x, 4, 4, 4);
        x.setRule(0, 0, (x.rule(0, 0) + 1) % 31);
        due(false, x.commutes());
        due(0, x.zeros(0));
        Checks.promise(28, "zero");
        BorderBasis two = Checks.loaded(TWO_ZEROS);
        int[][] zeros = {{2, 6, 1}, {29, 25, 1}};
        for (int k = 0; k < 2; k++) {
            for (int what = 0; what < 3; what++) {
                due(zeros[k][what], two.zero(k, what));
            }
        }
        dueThrow(Checks.INDEX, () -> two.zero(2, 0));
        dueThrow(Checks.INDEX, () -> two.zero(-1, 3));
        dueThrow(Checks.ARGUMENT, () -> two.zero(0, 3));
        dueThrow(Checks.ARGUMENT, () -> two.zero(0, -1));
        due(12, thick.zero(0, 2));
        BorderBasis many = Checks.loaded("point 3 1; point 0 5; point 3 0; point 0 2; point 1 9;");
        many.fit();
        int[][] sorted = {{0, 2}, {0, 5}, {1, 9}, {3, 0}, {3, 1}};
        for (int k = 0; k < sorted.length; k++) {
            due(sorted[k][0], many.zero(k, 0));
            due(sorted[k][1], many.zero(k, 1));
        }
    }

    private static void dueZeros(BorderBasis x, int inField, int distinct, int multiplicities) {
        due(inField, x.zeros(0));
        due(distinct, x.zeros(1));
        due(multiplicities, x.zeros(2));
    }

    /** A zero of tables that do not commute: {1, x}, and all rules vanish at (0, 0). */
    private static void zeroOfClash() {
        Checks.promise(28, "zero");
        BorderBasis x = Checks.loaded("join 1 0; rule 0 1 is 1 1 0; rule 2 0 is 5 1 0; rule 1 1 is 7 1 0;");
        due(false, x.commutes());
        due(1, x.zeros(0));
        due(0, x.zero(0, 0));
        due(0, x.zero(0, 1));
        due(NONE, x.zero(0, 2));
        due(NONE, x.zeros(1));
        due(NONE, x.zeros(2));
        due(NONE, x.multiplicity(0, 0));
        due(-1.0, x.share());
        x.addPoint(0, 0);
        due(1, x.point(0, 2));
    }

    private static void multiplicity() {
        Checks.promise(29, "multiplicity");
        BorderBasis x = Checks.loaded(TWO_ZEROS);
        due(1, x.multiplicity(2, 6));
        due(0, x.multiplicity(2, 7));
        due(0, x.multiplicity(29, 6));
        int[][] outside = {{-1, 0}, {0, -1}, {31, 0}, {0, 31}};
        for (int[] m : outside) {
            dueThrow(Checks.ARGUMENT, () -> x.multiplicity(m[0], m[1]));
        }
        due(NONE, Checks.loaded(CLASHING).multiplicity(2, 6));
        dueThrow(Checks.ARGUMENT, () -> Checks.loaded(CLASHING).multiplicity(31, 0));
        // x * x * (x - 1) = xxx - xx, y = 0
        BorderBasis y = Checks.loaded("join 1 0; join 2 0; rule 3 0 is 1 2 0;");
        due(2, y.multiplicity(0, 0));
        due(1, y.multiplicity(1, 0));
        due(0, y.multiplicity(1, 1));
        due(2, y.zero(0, 2));
        due(1, y.zero(1, 2));
        Checks.promise(30, "share");
        due(1.0, y.share());
        due(1.0, x.share());
        due(0.0, Checks.loaded(OUTSIDE).share());
        due(-1.0, Checks.loaded(CLASHING).share());
        // x * (x * x - 3)
        due(1.0 / 3.0, Checks.loaded("join 1 0; join 2 0; rule 3 0 is 3 1 0;").share());
        due(2.0 / 3.0, Checks.loaded("join 1 0; join 2 0; join 3 0; join 4 0; join 5 0;"
            + "rule 6 0 is 3 4 0;").share());
        due(1.0, new BorderBasis().share());
    }

    private static void points() {
        Checks.promise(31, "addPoint");
        BorderBasis x = new BorderBasis();
        for (int k = 0; k < 12; k++) {
            due(k, x.addPoint(k % 4, 30 - k));
        }
        dueThrow(Checks.STATE, () -> x.addPoint(5, 5));
        dueThrow(Checks.ARGUMENT, () -> x.addPoint(31, 0));
        dueThrow(Checks.ARGUMENT, () -> x.addPoint(0, 31));
        dueThrow(Checks.ARGUMENT, () -> x.addPoint(-1, 0));
        dueThrow(Checks.ARGUMENT, () -> x.addPoint(0, -1));
        due(12, x.count(4));
        due(12, x.changes(3));
        due(1, x.count(1));
        Checks.promise(32, "removePoint");
        dueThrow(Checks.INDEX, () -> x.removePoint(12));
        dueThrow(Checks.INDEX, () -> x.removePoint(-1));
        due(11, x.removePoint(0));
        due(10, x.removePoint(10));
        due(9, x.removePoint(4));
        int[] left = {1, 2, 3, 4, 6, 7, 8, 9, 10};
        Checks.promise(33, "point");
        for (int k = 0; k < left.length; k++) {
            due(left[k] % 4, x.point(k, 0));
            due(30 - left[k], x.point(k, 1));
        }
        dueThrow(Checks.INDEX, () -> x.point(9, 0));
        dueThrow(Checks.INDEX, () -> x.point(-1, 3));
        dueThrow(Checks.ARGUMENT, () -> x.point(8, 3));
        dueThrow(Checks.ARGUMENT, () -> x.point(8, -1));
        due(9, x.addPoint(0, 30));
        dueThrow(Checks.STATE, () -> x.addPoint(0, 30));
        due(0, x.point(9, 2));
        x.fit();
        due(1, x.point(9, 2));
        due(10, x.addPoint(30, 0));
        due(0, x.point(10, 2));
    }

    private static void fit() {
        Checks.promise(34, "fit");
        BorderBasis x = new BorderBasis();
        dueThrow(Checks.STATE, () -> x.fit());
        due(0, x.changes(5));
        BorderBasis y = parabola();
        dueRules(y, new int[][] {{0, 0, 1}, {6, 20, 6}, {5, 2, 25}});
        due(1, y.changes(5));
        due(3, y.count(4));
        x.addPoint(7, 30);
        due(1, x.fit());
        dueRules(x, new int[][] {{7}, {30}});
        // on a line with the same a: {1, y, yy}
        BorderBasis line = Checks.loaded("point 4 0; point 4 1; point 4 2; join 1 0; join 2 0;");
        due(3, line.fit());
        due(1, line.place(0, 1));
        due(2, line.place(0, 2));
        // x = 4, xy = 4y, xyy = 4yy, yyy = 3yy - 2y
        dueRules(line, new int[][] {{4, 0, 0}, {0, 4, 0}, {0, 0, 4}, {0, 29, 3}});
        // on the diagonal x comes ahead of y, which is x then: {1, x}
        BorderBasis diagonal = Checks.loaded("point 3 3; point 5 5;");
        due(2, diagonal.fit());
        due(1, diagonal.place(1, 0));
        dueRules(diagonal, new int[][] {{0, 1}, {16, 8}, {16, 8}});
        BorderBasis twelve = Checks.loaded(TWELVE_POINTS);
        due(12, twelve.fit());
        due(11, twelve.place(0, 11));
        due(112, twelve.place(0, 12));
        dueZeros(twelve, 12, 12, 12);
        // four points with {1, x, y, xy}: xx and yy are combinations, as two values of a and of b are all
        BorderBasis square = Checks.loaded("point 1 5; point 2 5; point 1 6; point 2 6;");
        due(4, square.fit());
        due(3, square.place(1, 1));
        due(100, square.place(2, 0));
    }

    private static void misfits() {
        Checks.promise(35, "misfits");
        BorderBasis x = new BorderBasis();
        due(NONE, x.misfits());
        x.addPoint(7, 0);
        due(1, x.misfits());
        x.setRule(1, 0, 3);
        due(2, x.misfits());
        x.fit();
        due(0, x.misfits());
        x.addPoint(8, 0);
        due(NONE, x.misfits());
        x.join(0, 1);
        due(NONE, x.misfits());
        x.leave(0, 1);
        x.join(1, 0);
        // y and xy are 0 as they should be, xx is not
        due(1, x.misfits());
        BorderBasis y = parabola();
        due(0, y.misfits());
        y.setRule(0, 0, 1);
        y.setRule(0, 1, 1);
        due(1, y.misfits());
        y.setRule(2, 2, 0);
        due(2, y.misfits());
        int changes = y.changes(5);
        due(2, y.misfits());
        due(changes, y.changes(5));
        due(4, y.count(5));
        y.removePoint(0);
        y.removePoint(0);
        y.removePoint(0);
        due(NONE, y.misfits());
    }

    private static void undo() {
        Checks.promise(36, "undo");
        BorderBasis x = new BorderBasis();
        due(NONE, x.undo());
        x.addPoint(1, 2);
        x.addPoint(3, 4);
        x.fit();
        x.join(0, 1);
        x.setRule(0, 0, 9);
        x.leave(0, 1);
        x.removePoint(0);
        due(6, x.undo());
        due(2, x.count(4));
        due(1, x.point(0, 0));
        due(5, x.undo());
        due(3, x.count(1));
        due(9, x.rule(0, 0));
        due(4, x.undo());
        due(false, x.rule(0, 0) == 9);
        due(3, x.undo());
        due(2, x.count(1));
        due(0, x.misfits());
        due(2, x.undo());
        due(1, x.count(1));
        due(0, x.rule(0, 0));
        due(1, x.undo());
        due(1, x.count(4));
        due(0, x.undo());
        due(NONE, x.undo());
        due(0, x.count(4));
        for (int k = 0; k < 11; k++) {
            x.setRule(0, 0, k);
        }
        due(8, x.count(5));
        for (int k = 7; k >= 0; k--) {
            due(k, x.undo());
            due(k + 2, x.rule(0, 0));
        }
        due(NONE, x.undo());
        due(2, x.rule(0, 0));
        x.setRule(0, 0, 2);
        due(1, x.count(5));
        due(0, x.undo());
        dueThrow(Checks.STATE, () -> x.join(0, 0));
        due(NONE, x.undo());
    }

    private static void slots() {
        Checks.promise(37, "save");
        BorderBasis x = Checks.loaded("prime 17; join 1 0; rule 2 0 is 3 0 0; point 16 16;");
        int[] outside = {-1, 2, Integer.MAX_VALUE};
        for (int slot : outside) {
            dueThrow(Checks.ARGUMENT, () -> {
                x.save(slot);
                return null;
            });
        }
        x.save(1);
        due(0, x.count(5));
        Checks.load(x, "join 0 1; point 30 0;");
        x.setRule(0, 0, 8);
        x.save(0);
        x.setRule(0, 0, 9);
        x.save(0);
        due(2, x.count(5));
        Checks.promise(38, "restore");
        for (int slot : outside) {
            dueThrow(Checks.ARGUMENT, () -> {
                x.restore(slot);
                return null;
            });
        }
        x.restore(1);
        due(17, x.count(0));
        due(2, x.count(1));
        due(1, x.place(1, 0));
        due(3, x.rule(1, 0));
        due(16, x.point(0, 1));
        due(0, x.count(5));
        due(NONE, x.undo());
        due(2, x.changes(2));
        x.setRule(1, 0, 4);
        x.restore(1);
        due(3, x.rule(1, 0));
        x.restore(0);
        due(31, x.count(0));
        due(9, x.rule(0, 0));
        due(30, x.point(0, 0));
        due(1, x.place(0, 1));
        BorderBasis y = new BorderBasis();
        y.save(0);
        y.join(1, 0);
        dueThrow(Checks.STATE, () -> {
            y.restore(1);
            return null;
        });
        due(1, y.count(5));
        due(2, y.count(1));
        y.restore(0);
        due(1, y.count(1));
        due(1, y.zeros(2));
    }

    public static void main(String[] args) {
        newObject();
        appendText();
        truncateText();
        load();
        loadReplaces();
        primes();
        loadAgain();
        reduce();
        setupErrors();
        polynomialErrors();
        result();
        count();
        changes();
        refusal();
        join();
        leave();
        numbering();
        rules();
        tables();
        clash();
        powers();
        zeros();
        zeroOfClash();
        multiplicity();
        points();
        fit();
        misfits();
        undo();
        slots();
        Checks.dueEachPromise();
        Checks.end();
    }
}
