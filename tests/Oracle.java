import java.nio.charset.StandardCharsets;
import java.util.ArrayDeque;
import java.util.ArrayList;
import java.util.Arrays;
import java.util.Comparator;
import java.util.Deque;
import java.util.HashMap;
import java.util.List;
import java.util.Map;
import java.util.function.IntPredicate;
import java.util.stream.IntStream;

/**
 * The class by the words of the document alone, for comparison: whatever can be searched for is
 * searched for, so that it shares no way of working with the program.
 */
final class Oracle {
    private static final int NONE = -1;

    private int[] moduli = leastModuli();
    private List<Let> lets = new ArrayList<>();
    private final StringBuilder tape = new StringBuilder();
    private int place = NONE;
    private final Deque<int[]> undoable = new ArrayDeque<>();
    private final int[][] slots = new int[3][];
    private final Map<Integer, Integer> images = new HashMap<>();

    // ---- polynomials

    private static int degree(long p) {
        return 63 - Long.numberOfLeadingZeros(p);
    }

    private static long multiply(long a, long b) {
        long sum = 0;
        for (int k = 0; k < 13; k++) {
            if ((b >> k & 1) == 1) {
                sum ^= a << k;
            }
        }
        return sum;
    }

    private static long modulo(long a, long by) {
        while (a != 0 && degree(a) >= degree(by)) {
            a ^= by << (degree(a) - degree(by));
        }
        return a;
    }

    private static final boolean[] SPLIT = new boolean[8192];

    static {
        for (int a = 2; a < 8192; a++) {
            for (int b = a; b < 8192 && degree(a) + degree(b) <= 12; b++) {
                SPLIT[(int) multiply(a, b)] = true;
            }
        }
    }

    private static int[] leastModuli() {
        int[] result = new int[13];
        for (int n = 1; n <= 12; n++) {
            result[n] = wholesOf(n)[0];
        }
        return result;
    }

    private static int[] wholesOf(int n) {
        return IntStream.range(1 << n, 2 << n).filter(p -> !SPLIT[p]).toArray();
    }

    // ---- fields

    private static boolean isField(int n) {
        return n >= 1 && n <= 12;
    }

    private static boolean isElement(int n, int a) {
        return isField(n) && a >= 0 && a < 1 << n;
    }

    private int mul(int n, int a, int b) {
        return (int) modulo(multiply(a, b), moduli[n]);
    }

    private int pow(int n, int a, long k) {
        if (k == 0) {
            return 1;
        }
        int half = pow(n, a, k / 2);
        int square = mul(n, half, half);
        return k % 2 == 0 ? square : mul(n, square, a);
    }

    private int search(int n, IntPredicate fits) {
        return IntStream.range(0, 1 << n).filter(fits).findFirst().orElse(NONE);
    }

    private int many(int n, IntPredicate fits) {
        return (int) IntStream.range(0, 1 << n).filter(fits).count();
    }

    private int inverseOf(int n, int a) {
        return search(n, b -> mul(n, a, b) == 1);
    }

    private int evaluate(int n, int polynomial, int a) {
        int sum = 0;
        int power = 1;
        for (int k = 0; k <= 12; k++) {
            if ((polynomial >> k & 1) == 1) {
                sum ^= power;
            }
            power = mul(n, power, a);
        }
        return sum;
    }

    private int order(int n, int a) {
        int at = a;
        for (int k = 1;; k++) {
            if (at == 1) {
                return k;
            }
            at = mul(n, at, a);
        }
    }

    private final Map<Long, Integer> primitives = new HashMap<>();

    private int leastPrimitive(int n) {
        return primitives.computeIfAbsent((long) moduli[n],
                key -> search(n, a -> a > 0 && order(n, a) == (1 << n) - 1));
    }

    private int[] conjugates(int n, int a) {
        int[] result = new int[n];
        int at = a;
        for (int i = 0; i < n; i++) {
            result[i] = at;
            at = mul(n, at, at);
        }
        return result;
    }

    private static int sumOf(int[] elements, int which) {
        int sum = 0;
        for (int i = 0; i < elements.length; i++) {
            if ((which >> i & 1) == 1) {
                sum ^= elements[i];
            }
        }
        return sum;
    }

    private boolean normal(int n, int a) {
        int[] all = conjugates(n, a);
        return IntStream.range(1, 1 << n).allMatch(which -> sumOf(all, which) != 0);
    }

    private final Map<Long, Integer> normals = new HashMap<>();
    private final Map<Long, Integer> normalCounts = new HashMap<>();

    private int leastNormal(int n) {
        return normals.computeIfAbsent((long) moduli[n], key -> search(n, a -> normal(n, a)));
    }

    private int degreeOf(int n, int a) {
        for (int d = 1;; d++) {
            if (n % d == 0 && pow(n, a, 1L << d) == a) {
                return d;
            }
        }
    }

    // ---- fields in one another

    private int image(int d, int n) {
        if (d == n) {
            return (int) modulo(2, moduli[n]);
        }
        Integer known = images.get(d * 100 + n);
        if (known == null) {
            known = findImage(d, n);
            images.put(d * 100 + n, known);
        }
        return known;
    }

    private int findImage(int d, int n) {
        for (int e = n - 1; e > d; e--) {
            if (n % e == 0 && e % d == 0) {
                return up(e, n, image(d, e));
            }
        }
        return search(n, y -> evaluate(n, moduli[d], y) == 0 && waysAgree(d, n, y));
    }

    private boolean waysAgree(int d, int n, int y) {
        for (int e = d + 1; e < n; e++) {
            if (n % e != 0) {
                continue;
            }
            int g = 1;
            for (int k = 1; k <= d; k++) {
                if (d % k == 0 && e % k == 0) {
                    g = k;
                }
            }
            for (int z = 0; z < 1 << g; z++) {
                if (evaluate(n, up(g, d, z), y) != up(e, n, up(g, e, z))) {
                    return false;
                }
            }
        }
        return true;
    }

    private int up(int d, int n, int a) {
        return evaluate(n, a, image(d, n));
    }

    private int loweredTo(int n, int d, int a) {
        int found = search(d, b -> up(d, n, b) == a);
        return found == NONE ? -2 : found;
    }

    // ---- the text

    private record Token(String text, int place, boolean good) {
        boolean is(String s) {
            return good && text.equals(s);
        }

        boolean isRow() {
            return good && Character.isDigit(text.charAt(0));
        }

        boolean isName() {
            return good && text.charAt(0) >= 'a' && text.charAt(0) <= 'z'
                    && !text.equals("x") && !text.equals("let") && !text.equals("modulus");
        }
    }

    private static final class Fault extends RuntimeException {
        private static final long serialVersionUID = 1;
        final int number;
        final int place;

        Fault(int number, int place) {
            this.number = number;
            this.place = place;
        }
    }

    private static final class Node {
        Token token;
        Node left;
        Node right;

        Node(Token token, Node left, Node right) {
            this.token = token;
            this.left = left;
            this.right = right;
        }
    }

    private static final class Let {
        String name;
        int field;
        Node expression;
        int worth;
    }

    private static final class Line {
        boolean isLet;
        Token name;
        Token field;
        Token row;
        Node expression;

        int n() {
            long number = Long.parseLong(field.text);
            return number >= 1 && number <= 12 ? (int) number : NONE;
        }
    }

    private static List<Token> tokens(String text) {
        List<Token> result = new ArrayList<>();
        int at = 0;
        while (at < text.length()) {
            char c = text.charAt(at);
            int end = at + 1;
            if (c == 9 || c == 10 || c == 13 || c == 32) {
                at++;
                continue;
            }
            boolean letter = c >= 'a' && c <= 'z';
            boolean digit = c >= '0' && c <= '9';
            while (end < text.length() && (letter && text.charAt(end) >= 'a' && text.charAt(end) <= 'z'
                    || digit && text.charAt(end) >= '0' && text.charAt(end) <= '9')) {
                end++;
            }
            boolean good = letter ? end - at <= 8 : digit ? end - at <= 13 : ";+*/^()".indexOf(c) >= 0;
            result.add(new Token(text.substring(at, end), at, good));
            at = end;
        }
        result.add(new Token("end", text.length(), false));
        return result;
    }

    private static final class Parser {
        private final List<Token> tokens;
        private int at;
        private int open;
        private int letLines;

        Parser(List<Token> tokens) {
            this.tokens = tokens;
        }

        private Token peek() {
            return tokens.get(at);
        }

        private Token take(boolean fits) {
            Token t = peek();
            if (!fits) {
                throw new Fault(1, t.place);
            }
            if (at >= 400) {
                throw new Fault(2, t.place);
            }
            at++;
            return t;
        }

        List<Line> lines() {
            List<Line> result = new ArrayList<>();
            while (at < tokens.size() - 1) {
                result.add(line());
            }
            return result;
        }

        private Line line() {
            Line line = new Line();
            line.isLet = peek().is("let");
            Token word = take(line.isLet || peek().is("modulus"));
            if (line.isLet) {
                letLines++;
                if (letLines > 8) {
                    throw new Fault(2, word.place);
                }
                line.name = take(peek().isName());
                line.field = take(peek().isRow());
                line.expression = expression();
            } else {
                line.field = take(peek().isRow());
                line.row = take(peek().isRow());
            }
            take(peek().is(";"));
            return line;
        }

        private Node expression() {
            Node left = term();
            while (peek().is("+")) {
                Token sign = take(true);
                left = new Node(sign, left, term());
            }
            return left;
        }

        private Node term() {
            Node left = power();
            while (peek().is("*") || peek().is("/")) {
                Token sign = take(true);
                left = new Node(sign, left, power());
            }
            return left;
        }

        private Node power() {
            Node atom = atom();
            if (!peek().is("^")) {
                return atom;
            }
            Token sign = take(true);
            return new Node(sign, atom, new Node(take(peek().isRow()), null, null));
        }

        private Node atom() {
            if (!peek().is("(")) {
                return new Node(take(peek().is("x") || peek().isRow() || peek().isName()), null, null);
            }
            Token parenthesis = take(true);
            open++;
            if (open > 8) {
                throw new Fault(2, parenthesis.place);
            }
            Node inside = expression();
            take(peek().is(")"));
            open--;
            return inside;
        }
    }

    private static int rowBits(String row) {
        return row.matches("[01]+") ? Integer.parseInt(row, 2) : NONE;
    }

    private static void collect(Node node, int n, Map<String, Integer> ahead, List<Fault> faults) {
        Token t = node.token;
        if (t.is("^")) {
            collect(node.left, n, ahead, faults);
            if (Long.parseLong(node.right.token.text) > 9999) {
                faults.add(new Fault(5, node.right.token.place));
            }
        } else if (node.left != null) {
            collect(node.left, n, ahead, faults);
            collect(node.right, n, ahead, faults);
        } else if (t.isRow() && rowBits(t.text) == NONE) {
            faults.add(new Fault(5, t.place));
        } else if (t.isName() && !ahead.containsKey(t.text)) {
            faults.add(new Fault(4, t.place));
        } else if (t.isName() && n != NONE && ahead.get(t.text) != NONE && n % ahead.get(t.text) != 0) {
            faults.add(new Fault(6, t.place));
        }
    }

    private static void checkLines(List<Line> lines) {
        List<Fault> faults = new ArrayList<>();
        Map<String, Integer> ahead = new HashMap<>();
        for (Line line : lines) {
            int n = line.n();
            if (n == NONE) {
                faults.add(new Fault(5, line.field.place));
            }
            if (!line.isLet) {
                int p = rowBits(line.row.text);
                if (n != NONE && (p < 2 || degree(p) != n || SPLIT[p])) {
                    faults.add(new Fault(5, line.row.place));
                }
                continue;
            }
            collect(line.expression, n, ahead, faults);
            if (ahead.putIfAbsent(line.name.text, n) != null) {
                faults.add(new Fault(3, line.name.place));
            }
        }
        faults.sort(Comparator.<Fault>comparingInt(f -> f.place).thenComparingInt(f -> f.number));
        if (!faults.isEmpty()) {
            throw faults.get(0);
        }
    }

    private int work(Node node, int n, Map<String, Let> ahead) {
        Token t = node.token;
        if (t.is("^")) {
            return pow(n, work(node.left, n, ahead), Long.parseLong(node.right.token.text));
        }
        if (node.left != null) {
            int left = work(node.left, n, ahead);
            int right = work(node.right, n, ahead);
            if (t.is("+")) {
                return left ^ right;
            }
            if (t.is("*")) {
                return mul(n, left, right);
            }
            if (right == 0) {
                throw new Fault(7, t.place);
            }
            return mul(n, left, inverseOf(n, right));
        }
        if (t.is("x")) {
            return (int) modulo(2, moduli[n]);
        }
        if (t.isRow()) {
            return (int) modulo(rowBits(t.text), moduli[n]);
        }
        Let let = ahead.get(t.text);
        return up(let.field, n, let.worth);
    }

    /** All names by the moduli that are given; the old ones stay if something is divided by 0. */
    private void workAll(int[] newModuli, List<Let> newLets) {
        int[] former = moduli;
        moduli = newModuli;
        images.clear();
        int[] worths = new int[newLets.size()];
        Map<String, Let> ahead = new HashMap<>();
        int[] before = newLets.stream().mapToInt(l -> l.worth).toArray();
        try {
            for (int i = 0; i < worths.length; i++) {
                Let let = newLets.get(i);
                let.worth = work(let.expression, let.field, ahead);
                ahead.put(let.name, let);
            }
        } catch (Fault fault) {
            moduli = former;
            images.clear();
            for (int i = 0; i < worths.length; i++) {
                newLets.get(i).worth = before[i];
            }
            throw fault;
        }
        lets = newLets;
    }

    private void readText(String text) {
        List<Line> lines = new Parser(tokens(text)).lines();
        checkLines(lines);
        int[] newModuli = leastModuli();
        List<Let> newLets = new ArrayList<>();
        for (Line line : lines) {
            if (line.isLet) {
                Let let = new Let();
                let.name = line.name.text;
                let.field = line.n();
                let.expression = line.expression;
                newLets.add(let);
            } else {
                newModuli[line.n()] = rowBits(line.row.text);
            }
        }
        workAll(newModuli, newLets);
    }

    // ---- the calls

    int feed(int a, int b, int c, int d, int e) {
        if (tape.length() > 1980) {
            return NONE;
        }
        for (int word : new int[] {a, b, c, d, e}) {
            tape.append((char) (word >>> 24)).append((char) (word >>> 16 & 255));
            tape.append((char) (word >>> 8 & 255)).append((char) (word & 255));
        }
        return tape.length();
    }

    int back(int n) {
        if (n < 0 || n > tape.length()) {
            return NONE;
        }
        tape.setLength(tape.length() - n);
        return tape.length();
    }

    int read() {
        String text = tape.toString();
        tape.setLength(0);
        place = NONE;
        try {
            readText(text);
        } catch (Fault fault) {
            place = fault.place;
            return fault.number;
        }
        undoable.clear();
        Arrays.fill(slots, null);
        return 0;
    }

    int place() {
        return place;
    }

    boolean change(int n, int polynomial) {
        if (!isField(n) || polynomial < 2 || polynomial > 8191 || degree(polynomial) != n || SPLIT[polynomial]
                || moduli[n] == polynomial) {
            return false;
        }
        int[] former = moduli;
        int[] other = moduli.clone();
        other[n] = polynomial;
        try {
            workAll(other, lets);
        } catch (Fault fault) {
            return false;
        }
        undoable.addLast(former);
        if (undoable.size() > 30) {
            undoable.removeFirst();
        }
        return true;
    }

    boolean undo() {
        if (undoable.isEmpty()) {
            return false;
        }
        workAll(undoable.removeLast(), lets);
        return true;
    }

    int modulus(int n) {
        return isField(n) ? moduli[n] : NONE;
    }

    int whole(int p) {
        return p < 2 || p > 8191 ? NONE : SPLIT[p] ? 0 : 1;
    }

    int next(int p) {
        if (p < 0 || p > 8191) {
            return NONE;
        }
        return IntStream.range(Math.max(2, p + 1), 8192).filter(q -> !SPLIT[q]).findFirst().orElse(NONE);
    }

    int wholes(int n) {
        return isField(n) ? wholesOf(n).length : NONE;
    }

    int both(int n, int a, int b, int what) {
        if (!isElement(n, a) || !isElement(n, b) || what < 0 || what > 2) {
            return NONE;
        }
        if (what == 0) {
            return a ^ b;
        }
        if (what == 1) {
            return mul(n, a, b);
        }
        return b == 0 ? -2 : search(n, c -> mul(n, b, c) == a);
    }

    int power(int n, int a, int k) {
        if (!isElement(n, a)) {
            return NONE;
        }
        if (k < 0) {
            return a == 0 ? -2 : pow(n, inverseOf(n, a), -(long) k);
        }
        return pow(n, a, k);
    }

    int element(int n, int a, int what) {
        if (!isElement(n, a) || what < 0 || what > 10) {
            return NONE;
        }
        if (a == 0 && (what == 0 || what == 2 || what == 3)) {
            return -2;
        }
        int[] all = conjugates(n, a);
        switch (what) {
            case 0: return inverseOf(n, a);
            case 1: return search(n, b -> mul(n, b, b) == a);
            case 2: return order(n, a);
            case 3: return logarithm(n, a);
            case 4: return degreeOf(n, a);
            case 5: return Arrays.stream(all).min().getAsInt();
            case 6: return (int) Arrays.stream(all).distinct().count();
            case 7: return a != 0 && order(n, a) == (1 << n) - 1 ? 1 : 0;
            case 8: return normal(n, a) ? 1 : 0;
            case 9:
                int[] base = conjugates(n, leastNormal(n));
                return search(n, which -> sumOf(base, which) == a);
            default: return normal(n, a) ? search(n, c -> isDual(n, all, c)) : -2;
        }
    }

    private int logarithm(int n, int a) {
        int at = 1;
        for (int k = 0;; k++) {
            if (at == a) {
                return k;
            }
            at = mul(n, at, leastPrimitive(n));
        }
    }

    private boolean isDual(int n, int[] all, int c) {
        for (int i = 0; i < n; i++) {
            if (down(n, 1, mul(n, c, all[i]), false) != (i == 0 ? 1 : 0)) {
                return false;
            }
        }
        return true;
    }

    int raise(int d, int n, int a) {
        if (!isField(n) || !isElement(d, a)) {
            return NONE;
        }
        return n % d != 0 ? -2 : up(d, n, a);
    }

    int lower(int n, int d, int a) {
        if (!isField(d) || !isElement(n, a)) {
            return NONE;
        }
        return n % d != 0 ? -2 : loweredTo(n, d, a);
    }

    int down(int n, int d, int a, boolean norm) {
        if (!isField(d) || !isElement(n, a)) {
            return NONE;
        }
        if (n % d != 0) {
            return -2;
        }
        int result = norm ? 1 : 0;
        for (int i = 0; i < n / d; i++) {
            int conjugate = pow(n, a, 1L << d * i);
            result = norm ? mul(n, result, conjugate) : result ^ conjugate;
        }
        return loweredTo(n, d, result);
    }

    int least(int n, int d, int a, int i) {
        if (!isField(d) || !isElement(n, a) || i < NONE) {
            return NONE;
        }
        if (n % d != 0) {
            return -2;
        }
        for (int degree = 1;; degree++) {
            for (int all = 0; all < 1 << d * degree; all++) {
                if (makesZero(n, d, a, degree, all)) {
                    if (i > degree) {
                        return NONE;
                    }
                    return i == NONE ? degree : i == degree ? 1 : all >> d * i & (1 << d) - 1;
                }
            }
        }
    }

    private boolean makesZero(int n, int d, int a, int degree, int all) {
        int sum = 0;
        int power = 1;
        for (int k = 0; k < degree; k++) {
            sum ^= mul(n, up(d, n, all >> d * k & (1 << d) - 1), power);
            power = mul(n, power, a);
        }
        return sum == power;
    }

    int solve(int n, int b, int c, int what) {
        if (!isElement(n, b) || !isElement(n, c) || what < 0 || what > 1) {
            return NONE;
        }
        return manyOrLeast(n, what, y -> (mul(n, y, y) ^ mul(n, b, y)) == c);
    }

    private int manyOrLeast(int n, int what, IntPredicate fits) {
        int many = many(n, fits);
        return what == 0 ? many : many == 0 ? -2 : search(n, fits);
    }

    int value(int n, int p, int a) {
        return isElement(n, a) && p >= 0 && p <= 8191 ? evaluate(n, p, a) : NONE;
    }

    int factor(int p, int i) {
        if (p < 2 || p > 8191 || i < NONE) {
            return NONE;
        }
        List<Integer> parts = new ArrayList<>();
        long rest = p;
        for (int q : IntStream.range(2, 8192).filter(part -> !SPLIT[part]).toArray()) {
            while (degree(rest) >= degree(q) && modulo(rest, q) == 0) {
                parts.add(q);
                long whole = rest;
                rest = IntStream.range(1, 8192).filter(r -> multiply(r, q) == whole).findFirst().getAsInt();
            }
        }
        return i == NONE ? parts.size() : i < parts.size() ? parts.get(i) : NONE;
    }

    int period(int p) {
        if (p < 2 || p > 8191) {
            return NONE;
        }
        if (p % 2 == 0) {
            return -2;
        }
        long power = 2;
        for (int k = 1;; k++) {
            if (modulo(power ^ 1, p) == 0) {
                return k;
            }
            power = modulo(power << 1, p);
        }
    }

    int coset(int n, int k, int what) {
        if (!isField(n) || k < 0 || k > (1 << n) - 2 || what < 0 || what > 1) {
            return NONE;
        }
        int[] all = new int[n];
        for (int i = 0; i < n; i++) {
            all[i] = (int) (((long) k << i) % ((1 << n) - 1));
        }
        return what == 0 ? Arrays.stream(all).min().getAsInt() : (int) Arrays.stream(all).distinct().count();
    }

    long code(int n, int t) {
        if (!isField(n) || n < 2 || t < 1 || t > 5) {
            return NONE;
        }
        List<Integer> parts = new ArrayList<>();
        long product = 1;
        for (int k = 1; k <= t; k++) {
            int power = pow(n, leastPrimitive(n), k);
            int part = IntStream.range(2, 8192).filter(p -> evaluate(n, p, power) == 0).findFirst().getAsInt();
            if (!parts.contains(part)) {
                parts.add(part);
                product = multiply(product, part);
            }
        }
        return product;
    }

    int roots(int n, int a, int k, int what) {
        if (!isElement(n, a) || k < 1 || k > 9999 || what < 0 || what > 1) {
            return NONE;
        }
        return manyOrLeast(n, what, y -> pow(n, y, k) == a);
    }

    int field(int n, int what) {
        if (!isField(n)) {
            return NONE;
        }
        switch (what) {
            case 0: return leastPrimitive(n);
            case 1: return many(n, a -> a > 0 && order(n, a) == (1 << n) - 1);
            case 2: return leastNormal(n);
            case 3: return normalCounts.computeIfAbsent((long) moduli[n], key -> many(n, a -> normal(n, a)));
            case 4: return many(n, a -> degreeOf(n, a) == n);
            case 5: return IntStream.rangeClosed(1, n).filter(d -> n % d == 0).map(d -> 1 << d - 1).sum();
            default: return NONE;
        }
    }

    int written(int n, int a, int letter, int i) {
        if (!isElement(n, a) || letter < 0 || letter > 25 || i < NONE) {
            return NONE;
        }
        List<String> parts = new ArrayList<>();
        String x = String.valueOf((char) ('a' + letter));
        for (int k = n - 1; k >= 0; k--) {
            if ((a >> k & 1) == 1) {
                parts.add(k == 0 ? "1" : k == 1 ? x : x + "^" + k);
            }
        }
        byte[] bytes = (a == 0 ? "0" : String.join("+", parts)).getBytes(StandardCharsets.ISO_8859_1);
        return i == NONE ? bytes.length : i < bytes.length ? bytes[i] : NONE;
    }

    int let(int i, int what) {
        if (i < 0 || i >= lets.size() || what < 0 || what > 3) {
            return NONE;
        }
        Let let = lets.get(i);
        int degree = degreeOf(let.field, let.worth);
        return what == 0 ? let.field : what == 1 ? let.worth : what == 2 ? degree
                : loweredTo(let.field, degree, let.worth);
    }

    boolean hold(int slot) {
        if (slot < 0 || slot > 2) {
            return false;
        }
        slots[slot] = moduli;
        return true;
    }

    boolean restore(int slot) {
        if (slot < 0 || slot > 2 || slots[slot] == null) {
            return false;
        }
        workAll(slots[slot], lets);
        undoable.clear();
        return true;
    }

    int count(int what) {
        switch (what) {
            case 0: return lets.size();
            case 1: return tape.length();
            case 2: return undoable.size();
            case 3: return (int) Arrays.stream(slots).filter(s -> s != null).count();
            case 4: return IntStream.rangeClosed(1, 12).filter(n -> moduli[n] != leastModuli()[n])
                    .map(n -> 1 << n - 1).sum();
            default: return NONE;
        }
    }
}
