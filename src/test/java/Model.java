import java.math.BigInteger;
import java.nio.ByteBuffer;
import java.nio.charset.StandardCharsets;
import java.util.ArrayList;
import java.util.Arrays;
import java.util.Collections;
import java.util.LinkedList;
import java.util.List;
import java.util.Map;
import java.util.TreeMap;
import java.util.TreeSet;
import java.util.regex.Matcher;
import java.util.regex.Pattern;

/**
 * The document's face once more, word by word and slowly, to compare BorderBasis with: nothing is
 * kept that can be computed, zeros are looked for at all points, powers are made by multiplying.
 */
final class Model {
    static final int NONE = -1;

    /** A monomial, in the order of the document. */
    record Mono(int i, int j) implements Comparable<Mono> {
        public int compareTo(Mono o) {
            return i + j != o.i + o.j ? Integer.compare(i + j, o.i + o.j) : Integer.compare(j, o.j);
        }
    }

    record Spot(int a, int b) { }

    static final class Basis {
        int p = 31;
        final TreeSet<Mono> ideal = new TreeSet<>(List.of(new Mono(0, 0)));
        final TreeMap<Mono, TreeMap<Mono, Integer>> rules = new TreeMap<>();
        final List<Spot> points = new ArrayList<>();

        Basis() {
            matchRules();
        }

        Basis copy() {
            Basis c = new Basis();
            c.p = p;
            c.ideal.clear();
            c.ideal.addAll(ideal);
            c.rules.clear();
            rules.forEach((k, v) -> c.rules.put(k, new TreeMap<>(v)));
            c.points.addAll(points);
            return c;
        }

        TreeSet<Mono> border() {
            TreeSet<Mono> border = new TreeSet<>();
            for (Mono m : ideal) {
                border.add(new Mono(m.i + 1, m.j));
                border.add(new Mono(m.i, m.j + 1));
            }
            border.removeAll(ideal);
            return border;
        }

        /** After the order ideal has changed. */
        void matchRules() {
            TreeSet<Mono> border = border();
            rules.keySet().retainAll(border);
            for (Mono b : border) {
                rules.putIfAbsent(b, new TreeMap<>());
                TreeMap<Mono, Integer> rule = rules.get(b);
                rule.keySet().retainAll(ideal);
                for (Mono m : ideal) {
                    rule.putIfAbsent(m, 0);
                }
            }
        }

        int refusal(int i, int j) {
            if (ideal.contains(new Mono(i, j))) {
                return 1;
            }
            if (i > 0 && !ideal.contains(new Mono(i - 1, j)) || j > 0 && !ideal.contains(new Mono(i, j - 1))) {
                return 2;
            }
            return ideal.size() == 12 ? 3 : 0;
        }

        boolean canLeave(int i, int j) {
            return ideal.contains(new Mono(i, j)) && !(i == 0 && j == 0)
                && !ideal.contains(new Mono(i + 1, j)) && !ideal.contains(new Mono(i, j + 1));
        }

        List<Mono> monomials() {
            return new ArrayList<>(ideal);
        }

        List<Mono> borderList() {
            return new ArrayList<>(border());
        }

        int valueOf(Mono m, int a, int b) {
            int v = 1;
            for (int k = 0; k < m.i; k++) {
                v = v * a % p;
            }
            for (int k = 0; k < m.j; k++) {
                v = v * b % p;
            }
            return v;
        }

        int ruleValue(Mono border, int a, int b) {
            int v = valueOf(border, a, b);
            for (Mono m : ideal) {
                v -= rules.get(border).get(m) * valueOf(m, a, b);
            }
            return Math.floorMod(v, p);
        }

        boolean isZero(int a, int b) {
            for (Mono m : border()) {
                if (ruleValue(m, a, b) != 0) {
                    return false;
                }
            }
            return true;
        }

        int[][] table(int variable) {
            List<Mono> list = monomials();
            int n = list.size();
            int[][] t = new int[n][n];
            for (int k = 0; k < n; k++) {
                Mono m = list.get(k);
                Mono product = variable == 0 ? new Mono(m.i + 1, m.j) : new Mono(m.i, m.j + 1);
                for (int r = 0; r < n; r++) {
                    if (ideal.contains(product)) {
                        t[r][k] = list.get(r).equals(product) ? 1 : 0;
                    } else {
                        t[r][k] = rules.get(product).get(list.get(r));
                    }
                }
            }
            return t;
        }

        int[][] times(int[][] x, int[][] y) {
            int[][] z = new int[x.length][y[0].length];
            for (int r = 0; r < x.length; r++) {
                for (int c = 0; c < y[0].length; c++) {
                    for (int k = 0; k < y.length; k++) {
                        z[r][c] = (z[r][c] + x[r][k] * y[k][c]) % p;
                    }
                }
            }
            return z;
        }

        int[][] identity(int factor) {
            int[][] one = new int[ideal.size()][ideal.size()];
            for (int k = 0; k < one.length; k++) {
                one[k][k] = factor;
            }
            return one;
        }

        int[][] power(int[][] x, int exponent) {
            int[][] z = identity(1);
            for (int k = 0; k < exponent; k++) {
                z = times(z, x);
            }
            return z;
        }

        int[][] minus(int[][] x, int value) {
            int[][] z = new int[x.length][];
            for (int r = 0; r < x.length; r++) {
                z[r] = x[r].clone();
                z[r][r] = Math.floorMod(z[r][r] - value, p);
            }
            return z;
        }

        int trace(int i, int j) {
            int[][] z = times(power(table(0), i), power(table(1), j));
            int sum = 0;
            for (int k = 0; k < z.length; k++) {
                sum += z[k][k];
            }
            return sum % p;
        }

        int[] normal(int i, int j) {
            int[][] column = new int[ideal.size()][1];
            column[0][0] = 1;
            for (int k = 0; k < j; k++) {
                column = times(table(1), column);
            }
            for (int k = 0; k < i; k++) {
                column = times(table(0), column);
            }
            int[] flat = new int[column.length];
            for (int k = 0; k < flat.length; k++) {
                flat[k] = column[k][0];
            }
            return flat;
        }

        /** By elimination below the diagonal alone, with columns that need no pivot passed over. */
        int rank(int[][] given) {
            int[][] m = new int[given.length][];
            for (int r = 0; r < m.length; r++) {
                m[r] = given[r].clone();
            }
            int rank = 0;
            for (int c = 0; m.length > 0 && c < m[0].length; c++) {
                int pivot = rank;
                while (pivot < m.length && m[pivot][c] == 0) {
                    pivot++;
                }
                if (pivot == m.length) {
                    continue;
                }
                int[] kept = m[pivot];
                m[pivot] = m[rank];
                m[rank] = kept;
                for (int r = rank + 1; r < m.length; r++) {
                    int factor = m[r][c];
                    for (int k = 0; k < m[0].length; k++) {
                        m[r][k] = Math.floorMod(m[r][k] * kept[c] - factor * kept[k], p);
                    }
                }
                rank++;
            }
            return rank;
        }

        /** By Laplace, along the rows, with the sums for sets of columns kept. */
        int determinant(int[][] m) {
            int n = m.length;
            int[] sums = new int[1 << n];
            sums[0] = 1;
            for (int set = 1; set < 1 << n; set++) {
                int row = Integer.bitCount(set) - 1;
                int sum = 0;
                for (int c = 0; c < n; c++) {
                    if ((set >> c & 1) == 1) {
                        int behind = Integer.bitCount(set >> c + 1);
                        int part = m[row][c] * sums[set & ~(1 << c)];
                        sum += behind % 2 == 0 ? part : -part;
                    }
                }
                sums[set] = Math.floorMod(sum, p);
            }
            return sums[(1 << n) - 1];
        }

        boolean commutes() {
            return Arrays.deepEquals(times(table(0), table(1)), times(table(1), table(0)));
        }

        int multiplicity(int a, int b) {
            int n = ideal.size();
            int[][] x = power(minus(table(0), a), n);
            int[][] y = power(minus(table(1), b), n);
            List<int[]> rows = new ArrayList<>(Arrays.asList(x));
            rows.addAll(Arrays.asList(y));
            return n - rank(rows.toArray(new int[0][]));
        }

        int distinct() {
            List<Mono> list = monomials();
            int n = list.size();
            int[][] form = new int[n][n];
            Map<Mono, Integer> traces = new TreeMap<>();
            for (int r = 0; r < n; r++) {
                for (int c = 0; c < n; c++) {
                    Mono product = new Mono(list.get(r).i + list.get(c).i, list.get(r).j + list.get(c).j);
                    form[r][c] = traces.computeIfAbsent(product, m -> trace(m.i, m.j));
                }
            }
            return rank(form);
        }

        List<Spot> zeros() {
            List<Spot> list = new ArrayList<>();
            for (int a = 0; a < p; a++) {
                for (int b = 0; b < p; b++) {
                    if (isZero(a, b)) {
                        list.add(new Spot(a, b));
                    }
                }
            }
            return list;
        }

        int[] valuesAtPoints(Mono m) {
            int[] row = new int[points.size()];
            for (int k = 0; k < row.length; k++) {
                row[k] = valueOf(m, points.get(k).a, points.get(k).b);
            }
            return row;
        }

        Basis fitted() {
            Basis f = new Basis();
            f.p = p;
            f.points.addAll(points);
            f.ideal.clear();
            List<int[]> rows = new ArrayList<>();
            for (int degree = 0; f.ideal.size() < points.size(); degree++) {
                for (int j = 0; j <= degree && f.ideal.size() < points.size(); j++) {
                    Mono m = new Mono(degree - j, j);
                    boolean divisors = (m.i == 0 || f.ideal.contains(new Mono(m.i - 1, m.j)))
                        && (m.j == 0 || f.ideal.contains(new Mono(m.i, m.j - 1)));
                    rows.add(valuesAtPoints(m));
                    if (divisors && rank(rows.toArray(new int[0][])) == rows.size()) {
                        f.ideal.add(m);
                    } else {
                        rows.remove(rows.size() - 1);
                    }
                }
            }
            f.rules.clear();
            f.matchRules();
            for (Mono b : f.border()) {
                f.solve(b);
            }
            return f;
        }

        /** By Cramer: each coefficient is a determinant over the one of all values. */
        private void solve(Mono border) {
            List<Mono> list = monomials();
            int n = list.size();
            int[][] rows = new int[n][];
            for (int k = 0; k < n; k++) {
                rows[k] = valuesAtPoints(list.get(k));
            }
            int whole = determinant(rows);
            for (int k = 0; k < n; k++) {
                int[][] other = rows.clone();
                other[k] = valuesAtPoints(border);
                int part = determinant(other);
                int quotient = 0;
                while (quotient * whole % p != part) {
                    quotient++;
                }
                rules.get(border).put(list.get(k), quotient);
            }
        }
    }

    /** Ends the reading of a text. */
    static final class Wrong extends Exception {
        private static final long serialVersionUID = 1L;
        final int code;
        final int position;

        Wrong(int code, int position) {
            this.code = code;
            this.position = position;
        }
    }

    record Token(String sign, int start) { }

    /** The tokens, a byte that belongs to none being one of its own; behind the last one the end. */
    static LinkedList<Token> tokens(byte[] bytes) {
        String text = new String(bytes, StandardCharsets.ISO_8859_1);
        LinkedList<Token> list = new LinkedList<>();
        Matcher matcher = Pattern.compile("[a-z]+|[0-9]+|[^ \n]").matcher(text);
        while (matcher.find()) {
            list.add(new Token(matcher.group(), matcher.start()));
        }
        list.add(new Token("", bytes.length));
        return list;
    }

    private static int number(LinkedList<Token> tokens, int least, int most) throws Wrong {
        Token t = tokens.poll();
        if (!t.sign.matches("[0-9]+")) {
            throw new Wrong(1, t.start);
        }
        BigInteger n = new BigInteger(t.sign);
        if (n.compareTo(BigInteger.valueOf(most)) > 0 || n.intValue() < least) {
            throw new Wrong(2, t.start);
        }
        return n.intValue();
    }

    private static void symbol(LinkedList<Token> tokens, String sign) throws Wrong {
        Token t = tokens.poll();
        if (!t.sign.equals(sign)) {
            throw new Wrong(1, t.start);
        }
    }

    private static Basis readSetup(byte[] bytes) throws Wrong {
        LinkedList<Token> tokens = tokens(bytes);
        Basis basis = new Basis();
        boolean first = true;
        while (tokens.size() > 1) {
            Token word = tokens.poll();
            if (first && word.sign.equals("prime")) {
                Token t = tokens.peek();
                int p = number(tokens, 13, 97);
                if (!BigInteger.valueOf(p).isProbablePrime(50)) {
                    throw new Wrong(2, t.start);
                }
                basis.p = p;
            } else if (word.sign.equals("join")) {
                if (basis.ideal.size() == 12) {
                    throw new Wrong(3, word.start);
                }
                int i = number(tokens, 0, 11);
                int at = tokens.peek().start;
                int j = number(tokens, 0, 11);
                if (basis.refusal(i, j) != 0) {
                    throw new Wrong(4, at);
                }
                basis.ideal.add(new Mono(i, j));
                basis.matchRules();
            } else if (word.sign.equals("rule")) {
                readRule(tokens, basis);
            } else if (word.sign.equals("point")) {
                if (basis.points.size() == 12) {
                    throw new Wrong(3, word.start);
                }
                int a = number(tokens, 0, basis.p - 1);
                int at = tokens.peek().start;
                int b = number(tokens, 0, basis.p - 1);
                if (basis.points.contains(new Spot(a, b))) {
                    throw new Wrong(5, at);
                }
                basis.points.add(new Spot(a, b));
            } else {
                throw new Wrong(1, word.start);
            }
            symbol(tokens, ";");
            first = false;
        }
        return basis;
    }

    private static void readRule(LinkedList<Token> tokens, Basis basis) throws Wrong {
        int i = number(tokens, 0, 12);
        int at = tokens.peek().start;
        int j = number(tokens, 0, 12);
        Mono border = new Mono(i, j);
        if (!basis.border().contains(border)) {
            throw new Wrong(4, at);
        }
        symbol(tokens, "is");
        basis.rules.get(border).replaceAll((m, c) -> 0);
        TreeSet<Mono> seen = new TreeSet<>();
        boolean more = !tokens.peek().sign.equals(";");
        while (more) {
            int c = coefficient(tokens);
            int termI = number(tokens, 0, 11);
            int termAt = tokens.peek().start;
            Mono m = new Mono(termI, number(tokens, 0, 11));
            if (!basis.ideal.contains(m)) {
                throw new Wrong(4, termAt);
            }
            if (seen.contains(m)) {
                throw new Wrong(5, termAt);
            }
            seen.add(m);
            basis.rules.get(border).put(m, Math.floorMod(c, basis.p));
            more = tokens.peek().sign.equals(",");
            if (more) {
                tokens.poll();
            }
        }
    }

    private static int coefficient(LinkedList<Token> tokens) throws Wrong {
        boolean negative = tokens.peek().sign.equals("-");
        if (negative) {
            tokens.poll();
        }
        int c = number(tokens, 0, 999);
        return negative ? -c : c;
    }

    private Basis basis = new Basis();
    private final LinkedList<Basis> undo = new LinkedList<>();
    private final Basis[] slots = new Basis[2];
    private final int[] counts = new int[6];
    private byte[] text = new byte[0];
    private int[] result = new int[12];
    private int errorCode = 0;
    private int errorPosition = NONE;

    private static void argument(boolean right) {
        if (!right) {
            throw new IllegalArgumentException();
        }
    }

    private static void index(boolean right) {
        if (!right) {
            throw new IndexOutOfBoundsException();
        }
    }

    private static void possible(boolean right) {
        if (!right) {
            throw new IllegalStateException();
        }
    }

    private static boolean in(int number, int most) {
        return 0 <= number && number <= most;
    }

    private void change(int kind) {
        counts[kind]++;
        undo.addLast(basis.copy());
        if (undo.size() > 8) {
            undo.removeFirst();
        }
    }

    public int appendText(int fourBytes) {
        possible(text.length + 4 <= 900);
        byte[] more = ByteBuffer.allocate(4).putInt(fourBytes).array();
        int old = text.length;
        text = Arrays.copyOf(text, old + 4);
        System.arraycopy(more, 0, text, old, 4);
        return text.length;
    }

    public int truncateText(int length) {
        argument(in(length, text.length));
        text = Arrays.copyOf(text, length);
        return length;
    }

    public int load() {
        byte[] read = text;
        text = new byte[0];
        try {
            basis = readSetup(read);
            errorCode = 0;
            errorPosition = NONE;
            undo.clear();
            Arrays.fill(counts, 0);
            return basis.ideal.size();
        } catch (Wrong e) {
            errorCode = e.code;
            errorPosition = e.position;
            return NONE;
        }
    }

    public int reduce() {
        byte[] read = text;
        text = new byte[0];
        try {
            int[] sum = new int[12];
            LinkedList<Token> tokens = tokens(read);
            boolean more = true;
            while (more) {
                int c = coefficient(tokens);
                int i = number(tokens, 0, 20);
                int[] form = basis.normal(i, number(tokens, 0, 20));
                for (int k = 0; k < form.length; k++) {
                    sum[k] = Math.floorMod(sum[k] + c * form[k], basis.p);
                }
                more = tokens.size() > 1;
                if (more) {
                    symbol(tokens, ",");
                }
            }
            result = sum;
            errorCode = 0;
            errorPosition = NONE;
            return (int) Arrays.stream(result).filter(c -> c != 0).count();
        } catch (Wrong e) {
            errorCode = e.code;
            errorPosition = e.position;
            return NONE;
        }
    }

    public int errorCode() {
        return errorCode;
    }

    public int errorPosition() {
        return errorPosition;
    }

    public int result(int index) {
        index(in(index, 11));
        return result[index];
    }

    public int count(int what) {
        argument(in(what, 7));
        int found = 0;
        switch (what) {
            case 0: return basis.p;
            case 1: return basis.ideal.size();
            case 2: return basis.border().size();
            case 3:
                for (TreeMap<Mono, Integer> rule : basis.rules.values()) {
                    found += rule.size() - Collections.frequency(rule.values(), 0);
                }
                return found;
            case 4: return basis.points.size();
            case 5: return undo.size();
            default:
                for (int i = 0; i <= 11; i++) {
                    for (int j = 0; j <= 11; j++) {
                        int refusal = basis.refusal(i, j);
                        if (what == 6 ? refusal == 0 || refusal == 3 : basis.canLeave(i, j)) {
                            found++;
                        }
                    }
                }
                return found;
        }
    }

    public int changes(int kind) {
        argument(in(kind, 5));
        return counts[kind];
    }

    public int refusal(int i, int j) {
        argument(in(i, 11) && in(j, 11));
        return basis.refusal(i, j);
    }

    public int join(int i, int j) {
        argument(in(i, 11) && in(j, 11));
        possible(basis.refusal(i, j) == 0);
        change(0);
        basis.ideal.add(new Mono(i, j));
        basis.matchRules();
        return basis.monomials().indexOf(new Mono(i, j));
    }

    public int leave(int i, int j) {
        argument(in(i, 11) && in(j, 11));
        possible(basis.canLeave(i, j));
        change(1);
        int number = basis.monomials().indexOf(new Mono(i, j));
        basis.ideal.remove(new Mono(i, j));
        basis.matchRules();
        return number;
    }

    public int monomial(int index, int what) {
        index(in(index, basis.ideal.size() - 1));
        argument(in(what, 1));
        Mono m = basis.monomials().get(index);
        return what == 0 ? m.i : m.j;
    }

    public int border(int index, int what) {
        index(in(index, basis.border().size() - 1));
        argument(in(what, 1));
        Mono m = basis.borderList().get(index);
        return what == 0 ? m.i : m.j;
    }

    public int place(int i, int j) {
        Mono m = new Mono(i, j);
        if (basis.monomials().contains(m)) {
            return basis.monomials().indexOf(m);
        }
        return basis.borderList().contains(m) ? 100 + basis.borderList().indexOf(m) : NONE;
    }

    public int setRule(int border, int monomial, int value) {
        int old = rule(border, monomial);
        argument(in(value, basis.p - 1));
        change(2);
        basis.rules.get(basis.borderList().get(border)).put(basis.monomials().get(monomial), value);
        return old;
    }

    public int rule(int border, int monomial) {
        index(in(border, basis.border().size() - 1) && in(monomial, basis.ideal.size() - 1));
        return basis.rules.get(basis.borderList().get(border)).get(basis.monomials().get(monomial));
    }

    public int value(int border, int a, int b) {
        index(in(border, basis.border().size() - 1));
        argument(in(a, basis.p - 1) && in(b, basis.p - 1));
        return basis.ruleValue(basis.borderList().get(border), a, b);
    }

    public int table(int variable, int row, int column) {
        index(in(row, basis.ideal.size() - 1) && in(column, basis.ideal.size() - 1));
        argument(in(variable, 1));
        return basis.table(variable)[row][column];
    }

    public boolean commutes() {
        return basis.commutes();
    }

    public int clash(int what) {
        argument(in(what, 4));
        int[][] xy = basis.times(basis.table(0), basis.table(1));
        int[][] yx = basis.times(basis.table(1), basis.table(0));
        List<int[]> found = new ArrayList<>();
        for (int c = 0; c < xy.length; c++) {
            for (int r = 0; r < xy.length; r++) {
                if (xy[r][c] != yx[r][c]) {
                    found.add(new int[] {c, r, xy[r][c], yx[r][c]});
                }
            }
        }
        if (what == 4) {
            return found.size();
        }
        return found.isEmpty() ? NONE : found.get(0)[what];
    }

    public int trace(int i, int j) {
        argument(in(i, 22) && in(j, 22));
        return basis.trace(i, j);
    }

    public int normal(int i, int j, int index) {
        index(in(index, basis.ideal.size() - 1));
        argument(in(i, 22) && in(j, 22));
        return basis.normal(i, j)[index];
    }

    public int determinant(int variable) {
        argument(in(variable, 1));
        return basis.determinant(basis.table(variable));
    }

    public int kernel(int variable, int value) {
        argument(in(variable, 1) && in(value, basis.p - 1));
        return basis.ideal.size() - basis.rank(basis.minus(basis.table(variable), value));
    }

    public int zeros(int what) {
        argument(in(what, 2));
        if (what == 0) {
            return basis.zeros().size();
        }
        if (!basis.commutes()) {
            return NONE;
        }
        return what == 1 ? basis.distinct() : allMultiplicities();
    }

    private int allMultiplicities() {
        int sum = 0;
        for (Spot s : basis.zeros()) {
            sum += basis.multiplicity(s.a, s.b);
        }
        return sum;
    }

    public int zero(int index, int what) {
        List<Spot> zeros = basis.zeros();
        index(in(index, zeros.size() - 1));
        argument(in(what, 2));
        Spot s = zeros.get(index);
        return what == 0 ? s.a : what == 1 ? s.b : multiplicity(s.a, s.b);
    }

    public int multiplicity(int a, int b) {
        argument(in(a, basis.p - 1) && in(b, basis.p - 1));
        return basis.commutes() ? basis.multiplicity(a, b) : NONE;
    }

    public double share() {
        return basis.commutes() ? (double) allMultiplicities() / basis.ideal.size() : -1.0;
    }

    public int addPoint(int a, int b) {
        argument(in(a, basis.p - 1) && in(b, basis.p - 1));
        possible(!basis.points.contains(new Spot(a, b)) && basis.points.size() < 12);
        change(3);
        basis.points.add(new Spot(a, b));
        return basis.points.size() - 1;
    }

    public int removePoint(int index) {
        index(in(index, basis.points.size() - 1));
        change(4);
        basis.points.remove(index);
        return basis.points.size();
    }

    public int point(int index, int what) {
        index(in(index, basis.points.size() - 1));
        argument(in(what, 2));
        Spot s = basis.points.get(index);
        return what == 0 ? s.a : what == 1 ? s.b : basis.isZero(s.a, s.b) ? 1 : 0;
    }

    public int fit() {
        possible(!basis.points.isEmpty());
        change(5);
        basis = basis.fitted();
        return basis.ideal.size();
    }

    public int misfits() {
        if (basis.points.isEmpty()) {
            return NONE;
        }
        Basis fitted = basis.fitted();
        if (!fitted.ideal.equals(basis.ideal)) {
            return NONE;
        }
        int others = 0;
        for (Mono b : basis.border()) {
            if (!basis.rules.get(b).equals(fitted.rules.get(b))) {
                others++;
            }
        }
        return others;
    }

    public int undo() {
        if (undo.isEmpty()) {
            return NONE;
        }
        basis = undo.removeLast();
        return undo.size();
    }

    public void save(int slot) {
        argument(in(slot, 1));
        slots[slot] = basis.copy();
    }

    public void restore(int slot) {
        argument(in(slot, 1));
        possible(slots[slot] != null);
        basis = slots[slot].copy();
        undo.clear();
    }
}
