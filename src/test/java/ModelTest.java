import java.lang.reflect.InvocationTargetException;
import java.lang.reflect.Method;
import java.lang.reflect.Modifier;
import java.nio.charset.StandardCharsets;
import java.util.ArrayList;
import java.util.Arrays;
import java.util.HashMap;
import java.util.List;
import java.util.Map;
import java.util.TreeMap;

/** Runs of at most 512 calls, the same ones each time, on BorderBasis and on the Model. */
public final class ModelTest {
    private static final int RUN_LENGTH = 512;
    private static final String[] QUERIES = {
        "errorCode", "errorPosition", "result", "count", "changes", "refusal", "monomial", "border", "place", "rule",
        "value", "table", "commutes", "clash", "trace", "normal", "determinant", "kernel", "zeros", "zero",
        "multiplicity", "share", "point", "misfits"};
    private static final int[] PRIMES = {
        13, 17, 19, 23, 29, 31, 37, 41, 43, 47, 53, 59, 61, 67, 71, 73, 79, 83, 89, 97};
    private static final Map<String, Method> FACE = new HashMap<>();
    private static final Map<String, Method> MODEL = new HashMap<>();

    private static long seed;
    private static int wrong;
    private static int compared;
    private static final Map<String, Integer> SEEN = new TreeMap<>();

    private BorderBasis basis;
    private Model model;
    private List<String> calls;

    private static int random(int bound) {
        seed = seed * 6364136223846793005L + 1442695040888963407L;
        return (int) ((seed >>> 33) % bound);
    }

    private static boolean chance(int percent) {
        return random(100) < percent;
    }

    private static Object answer(Method method, Object target, Object[] args) throws ReflectiveOperationException {
        try {
            return method.invoke(target, args);
        } catch (InvocationTargetException e) {
            return "throws." + e.getCause().getClass().getName();
        }
    }

    /** Calls both; answers what the model answered. */
    private Object call(String name, Object... args) throws ReflectiveOperationException {
        Object due = answer(MODEL.get(name), model, args);
        Object got = answer(FACE.get(name), basis, args);
        calls.add(name + Arrays.toString(args) + " answered " + got);
        compared++;
        SEEN.merge(name + (due instanceof String ? " " + due : ""), 1, Integer::sum);
        if (due == null ? got != null : !due.equals(got)) {
            wrong++;
            if (wrong <= 5) {
                System.out.println("due is " + due + ", but:");
                calls.subList(Math.max(0, calls.size() - 40), calls.size()).forEach(c -> System.out.println("  " + c));
            }
        }
        return due;
    }

    private int number(String name, Object... args) throws ReflectiveOperationException {
        return (Integer) call(name, args);
    }

    private void begin() {
        basis = new BorderBasis();
        model = new Model();
        calls = new ArrayList<>();
    }

    /** Mostly 0 to most, at times just outside or far off. */
    private static int around(int most) {
        if (chance(92) && most >= 0) {
            return random(most + 1);
        }
        int[] odd = {-1, 0, most, most + 1, most + 2, 12, 13, 100, Integer.MAX_VALUE, Integer.MIN_VALUE, 1 << 16};
        return odd[random(odd.length)];
    }

    private void query(String name) throws ReflectiveOperationException {
        int n = model.count(1);
        int borders = model.count(2);
        int p = model.count(0);
        switch (name) {
            case "result": call(name, around(11)); break;
            case "count": call(name, around(7)); break;
            case "changes": call(name, around(5)); break;
            case "refusal": case "place": call(name, around(chance(60) ? 4 : 12), around(chance(60) ? 4 : 12)); break;
            case "monomial": call(name, around(n - 1), around(1)); break;
            case "border": call(name, around(borders - 1), around(1)); break;
            case "rule": call(name, around(borders - 1), around(n - 1)); break;
            case "value": call(name, around(borders - 1), around(p - 1), around(p - 1)); break;
            case "table": call(name, around(1), around(n - 1), around(n - 1)); break;
            case "clash": call(name, around(4)); break;
            case "trace": call(name, around(chance(50) ? 4 : 22), around(chance(50) ? 4 : 22)); break;
            case "normal": call(name, around(22), around(22), around(n - 1)); break;
            case "determinant": call(name, around(1)); break;
            case "kernel": call(name, around(1), chance(40) ? 0 : around(p - 1)); break;
            case "zeros": call(name, around(2)); break;
            case "zero": queryZero(); break;
            case "multiplicity": queryMultiplicity(p); break;
            case "point": call(name, around(model.count(4) - 1), around(2)); break;
            default: call(name); break;
        }
    }

    private void queryZero() throws ReflectiveOperationException {
        int index = around(Math.max(0, model.zeros(0) - 1));
        int what = around(2);
        call("zero", index, what);
    }

    private void queryMultiplicity(int p) throws ReflectiveOperationException {
        int zeros = model.zeros(0);
        if (zeros > 0 && chance(70)) {
            int index = random(zeros);
            call("multiplicity", model.zero(index, 0), model.zero(index, 1));
        } else {
            call("multiplicity", around(p - 1), around(p - 1));
        }
    }

    private void someQueries(int many) throws ReflectiveOperationException {
        for (int k = 0; k < many; k++) {
            query(QUERIES[random(QUERIES.length)]);
        }
    }

    /** All that is told of the zeros, and the tables whole. */
    private void askZeros() throws ReflectiveOperationException {
        call("commutes");
        for (int what = 0; what <= 4; what++) {
            call("clash", what);
        }
        for (int what = 0; what <= 2; what++) {
            call("zeros", what);
        }
        call("share");
        int zeros = model.zeros(0);
        for (int k = 0; k < zeros; k++) {
            call("zero", k, 0);
            call("zero", k, 1);
            call("zero", k, 2);
        }
        call("zero", zeros, 0);
    }

    private void change() throws ReflectiveOperationException {
        int n = model.count(1);
        int p = model.count(0);
        switch (random(13)) {
            case 0: case 1: case 2: joinSomething(); break;
            case 3: leaveSomething(n); break;
            case 4: case 5: case 6: call("setRule", around(model.count(2) - 1), around(n - 1), around(p - 1)); break;
            case 7: case 8: call("addPoint", around(chance(40) ? 3 : p - 1), around(chance(40) ? 3 : p - 1)); break;
            case 9: call("removePoint", around(model.count(4) - 1)); break;
            case 10: call("fit"); break;
            default: stepBack(); break;
        }
    }

    private void stepBack() throws ReflectiveOperationException {
        switch (random(4)) {
            case 0: call("save", around(1)); break;
            case 1: call("restore", around(1)); break;
            default: call("undo"); break;
        }
    }

    /** Mostly a border monomial, so that the order ideals become large. */
    private void joinSomething() throws ReflectiveOperationException {
        if (chance(85)) {
            int border = random(model.count(2));
            call("join", model.border(border, 0), model.border(border, 1));
        } else {
            call("join", around(11), around(11));
        }
    }

    private void leaveSomething(int n) throws ReflectiveOperationException {
        if (chance(70)) {
            int last = n - 1 - random(Math.min(n, 3));
            call("leave", model.monomial(last, 0), model.monomial(last, 1));
        } else {
            call("leave", around(3), around(3));
        }
    }

    /** The whole of what a setup brings. */
    private void askState() throws ReflectiveOperationException {
        for (int what = 0; what < 8; what++) {
            call("count", what);
        }
        for (int k = 0; k < 6; k++) {
            call("changes", k);
        }
        int n = model.count(1);
        for (int k = 0; k <= n; k++) {
            call("monomial", k, 0);
            call("monomial", k, 1);
        }
        int borders = model.count(2);
        for (int k = 0; k <= borders; k++) {
            call("border", k, 0);
            call("border", k, 1);
            for (int m = 0; m < n && calls.size() < 480; m++) {
                call("rule", k, m);
            }
        }
        int points = model.count(4);
        for (int k = 0; k < points && calls.size() < RUN_LENGTH - 2; k++) {
            call("point", k, 0);
            call("point", k, 1);
        }
    }

    private void textRun() throws ReflectiveOperationException {
        begin();
        if (chance(30)) {
            setPrime(PRIMES[random(PRIMES.length)]);
            change();
            change();
            joinSomething();
        }
        for (int k = random(3); k >= 0; k--) {
            readText();
        }
        askState();
    }

    private void send(byte[] text) throws ReflectiveOperationException {
        for (int k = 0; k < text.length; k += 4) {
            int four = 0;
            for (int m = 0; m < 4; m++) {
                four = four << 8 | (k + m < text.length ? text[k + m] & 255 : random(256));
            }
            call("appendText", four);
        }
        call("truncateText", text.length);
    }

    /** A text with, at times, an error in it. */
    private static byte[] spoilt(String right) {
        StringBuilder text = new StringBuilder(right);
        if (chance(30) && text.length() > 0) {
            String odd = " ;,-0123456789abz\nA.\u0000\u0080\u00ff\t\r{`/:";
            int at = random(text.length());
            switch (random(5)) {
                case 0: text.setCharAt(at, odd.charAt(random(odd.length()))); break;
                case 1: text.insert(at, odd.charAt(random(odd.length()))); break;
                case 2: text.deleteCharAt(at); break;
                case 3: text.setLength(at); break;
                default: text.append(odd.charAt(random(odd.length()))); break;
            }
        }
        return text.toString().getBytes(StandardCharsets.ISO_8859_1);
    }

    private static String digits(int number) {
        if (chance(1)) {
            String[] odd = {"11", "12", "13", "20", "21", "999", "1000", "4294967296", "99999999999999999999"};
            return odd[random(odd.length)];
        }
        return (chance(4) ? "000000000000".substring(random(12)) : "") + number;
    }

    private static String blank() {
        return chance(90) ? " " : chance(50) ? "\n" : "  \n ";
    }

    private static String maybe() {
        return chance(85) ? "" : blank();
    }

    private static String words(Object... parts) {
        StringBuilder text = new StringBuilder();
        for (Object part : parts) {
            text.append(text.length() > 0 ? blank() : "").append(part);
        }
        return text.toString();
    }

    private static String term(int c, int i, int j) {
        return (chance(30) ? "-" + maybe() : "") + words(digits(c), digits(i), digits(j));
    }

    private static String polynomial() {
        StringBuilder text = new StringBuilder(maybe());
        int most = chance(5) ? 140 : 1 + random(12);
        for (int k = 0; k < most && text.length() < 860; k++) {
            int top = most > 20 ? 9 : 20;
            text.append(k > 0 ? "," + maybe() : "");
            text.append(term(random(chance(50) ? 9 : 999) + 1, random(top + 1), random(top + 1)));
        }
        return text.append(maybe()).toString();
    }

    private static String setup() {
        Model.Basis sketch = new Model.Basis();
        StringBuilder text = new StringBuilder(maybe());
        if (chance(60)) {
            sketch.p = PRIMES[random(PRIMES.length)];
            text.append(words("prime", digits(chance(6) ? random(120) : sketch.p))).append(";");
        }
        int most = chance(10) ? 60 : random(16);
        int kinds = random(4);
        for (int k = 0; k < most && text.length() < 800; k++) {
            text.append(maybe()).append(statement(sketch, kinds)).append(maybe()).append(";");
        }
        return text.append(maybe()).toString();
    }

    private static String statement(Model.Basis sketch, int kinds) {
        int choice = random(3);
        if ((choice == 0 || kinds == 1) && (sketch.ideal.size() < 12 || chance(10))) {
            List<Model.Mono> border = sketch.borderList();
            if (chance(98)) {
                border.removeIf(m -> sketch.refusal(m.i(), m.j()) == 2);
            }
            Model.Mono m = border.get(random(border.size()));
            if (sketch.refusal(m.i(), m.j()) == 0) {
                sketch.ideal.add(m);
                sketch.matchRules();
            }
            return words("join", digits(m.i()), digits(m.j()));
        }
        if ((choice == 1 || kinds == 2) && (sketch.points.size() < 12 || chance(10))) {
            Model.Spot s = new Model.Spot(random(chance(98) ? sketch.p : 100), random(sketch.p));
            if (sketch.points.size() > 0 && chance(2)) {
                s = sketch.points.get(random(sketch.points.size()));
            }
            sketch.points.add(s);
            return words("point", digits(s.a()), digits(s.b()));
        }
        return rule(sketch);
    }

    private static String rule(Model.Basis sketch) {
        List<Model.Mono> border = sketch.borderList();
        Model.Mono m = chance(99) ? border.get(random(border.size())) : new Model.Mono(random(5), random(5));
        StringBuilder text = new StringBuilder(words("rule", digits(m.i()), digits(m.j()), "is"));
        String comma = " ";
        for (Model.Mono term : sketch.monomials()) {
            if (chance(50)) {
                text.append(comma).append(term(random(1000), term.i(), term.j()));
                comma = "," + maybe();
            }
            if (chance(1)) {
                text.append(comma).append(term(random(1000), random(3), random(3)));
                comma = "," + maybe();
            }
        }
        return text.toString();
    }

    private void readText() throws ReflectiveOperationException {
        boolean isSetup = chance(40);
        send(spoilt(isSetup ? setup() : polynomial()));
        String reader = isSetup == chance(97) ? "load" : "reduce";
        call(reader);
        SEEN.merge(reader + " error " + call("errorCode"), 1, Integer::sum);
        call("errorPosition");
        for (int k = 0; k < 12; k++) {
            call("result", k);
        }
    }

    private void mixedRun() throws ReflectiveOperationException {
        begin();
        int texts = random(5);
        while (calls.size() < RUN_LENGTH) {
            if (random(100) < texts) {
                readText();
            } else if (chance(40)) {
                change();
            } else {
                someQueries(2);
            }
        }
    }

    private void setPrime(int prime) throws ReflectiveOperationException {
        send(("prime " + prime + ";").getBytes(StandardCharsets.ISO_8859_1));
        call("load");
    }

    /** Points on few lines too, so that the order ideals are not all alike. */
    private void pointsRun() throws ReflectiveOperationException {
        begin();
        int prime = PRIMES[random(PRIMES.length)];
        setPrime(prime);
        int spreadA = chance(50) ? prime : 1 + random(4);
        int spreadB = chance(50) ? prime : 1 + random(5);
        for (int k = 0; k < 14; k++) {
            call("addPoint", random(spreadA), random(spreadB));
            if (chance(30)) {
                call("fit");
                call("misfits");
            }
        }
        call("fit");
        askZeros();
        while (calls.size() < 300) {
            if (chance(12)) {
                change();
                call("misfits");
            } else {
                someQueries(1);
            }
        }
        reduceSome();
    }

    private void reduceSome() throws ReflectiveOperationException {
        send(polynomial().getBytes(StandardCharsets.ISO_8859_1));
        call("reduce");
        for (int k = 0; k < 13; k++) {
            call("result", k);
        }
    }

    /** Coefficients of a polynomial of this degree without the highest: often with double roots. */
    private static int[] lowerPart(int degree, int p) {
        int[] f = new int[degree + 1];
        f[0] = 1;
        int made = 0;
        while (made < degree) {
            int root = random(chance(60) ? 2 : p);
            boolean pair = chance(30) && made + 2 <= degree;
            int c1 = pair ? random(p) : p - root;
            int c0 = pair ? random(p) : 0;
            int[] g = new int[degree + 1];
            for (int k = 0; k <= made; k++) {
                if (pair) {
                    g[k + 2] = (g[k + 2] + f[k]) % p;
                    g[k + 1] = (g[k + 1] + f[k] * c1) % p;
                    g[k] = (g[k] + f[k] * c0) % p;
                } else {
                    g[k + 1] = (g[k + 1] + f[k]) % p;
                    g[k] = (g[k] + f[k] * c1) % p;
                }
            }
            f = g;
            made += pair ? 2 : 1;
        }
        int[] rule = new int[degree];
        for (int k = 0; k < degree; k++) {
            rule[k] = (p - f[k]) % p;
        }
        return rule;
    }

    private void setRuleOf(int i, int j, int mi, int mj, int value) throws ReflectiveOperationException {
        int border = number("place", i, j) - 100;
        int monomial = number("place", mi, mj);
        call("setRule", border, monomial, value);
    }

    /** f(x) and g(y): the tables commute, with multiplicities and zeros outside of the field. */
    private void gridRun() throws ReflectiveOperationException {
        begin();
        int p = PRIMES[random(PRIMES.length)];
        setPrime(p);
        int wide = 1 + random(chance(20) ? 12 : 4);
        int high = 1 + random(12 / wide);
        for (int degree = 1; degree <= wide + high; degree++) {
            for (int i = 0; i < wide; i++) {
                int j = degree - i;
                if (j >= 0 && j < high) {
                    call("join", i, j);
                }
            }
        }
        int[] f = lowerPart(wide, p);
        int[] g = lowerPart(high, p);
        for (int j = 0; j < high; j++) {
            for (int k = 0; k < wide; k++) {
                setRuleOf(wide, j, k, j, f[k]);
            }
        }
        for (int i = 0; i < wide; i++) {
            for (int k = 0; k < high; k++) {
                setRuleOf(i, high, i, k, g[k]);
            }
        }
        endCommutingRun();
    }

    /** f(x) and y - g(x). */
    private void curveRun() throws ReflectiveOperationException {
        begin();
        int p = PRIMES[random(PRIMES.length)];
        setPrime(p);
        int n = 1 + random(8);
        for (int i = 1; i < n; i++) {
            call("join", i, 0);
        }
        int[] f = lowerPart(n, p);
        for (int k = 0; k < n; k++) {
            setRuleOf(n, 0, k, 0, f[k]);
        }
        int[] g = new int[n];
        for (int k = 0; k < n; k++) {
            g[k] = random(p);
        }
        for (int i = 0; i < n; i++) {
            for (int k = 0; k < n; k++) {
                setRuleOf(i, 1, k, 0, g[k]);
            }
            int top = g[n - 1];
            for (int k = n - 1; k >= 0; k--) {
                g[k] = ((k > 0 ? g[k - 1] : 0) + top * f[k]) % p;
            }
        }
        endCommutingRun();
    }

    /** Rules of zeros alone: the tables commute, and (0, 0) is the only zero. */
    private void staircaseRun() throws ReflectiveOperationException {
        begin();
        while (model.count(1) < 12 && calls.size() < 60) {
            joinSomething();
        }
        endCommutingRun();
    }

    private void endCommutingRun() throws ReflectiveOperationException {
        if (!model.commutes()) {
            throw new IllegalStateException("the tables were meant to commute");
        }
        askZeros();
        call("determinant", 0);
        call("determinant", 1);
        int last = Math.min(RUN_LENGTH - 60, calls.size() + 60);
        while (calls.size() < last) {
            someQueries(1);
        }
        for (int k = 0; k < 12; k++) {
            change();
            query(QUERIES[random(QUERIES.length)]);
            if (chance(30)) {
                call("zeros", random(3));
            }
        }
    }

    public static void main(String[] args) throws ReflectiveOperationException {
        for (Method method : BorderBasis.class.getDeclaredMethods()) {
            if (Modifier.isPublic(method.getModifiers())) {
                FACE.put(method.getName(), method);
                MODEL.put(method.getName(), Model.class.getMethod(method.getName(), method.getParameterTypes()));
            }
        }
        int rounds = args.length > 0 ? Integer.parseInt(args[0]) : 40;
        for (int round = 0; round < rounds; round++) {
            seed = 1000003L * round + (args.length > 1 ? Long.parseLong(args[1]) : 7);
            ModelTest test = new ModelTest();
            test.mixedRun();
            for (int k = 0; k < 25; k++) {
                test.textRun();
            }
            test.pointsRun();
            test.gridRun();
            test.curveRun();
            test.staircaseRun();
        }
        if (args.length > 0) {
            SEEN.forEach((k, v) -> System.out.println(k + ": " + v));
        }
        System.out.println(compared + " calls compared, " + wrong + " wrong");
        System.exit(wrong == 0 ? 0 : 1);
    }
}
