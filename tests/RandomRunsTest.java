import java.nio.charset.StandardCharsets;
import java.util.Random;

/** Runs of calls by chance (but the same ones each time), answered by the program and by Oracle. */
public final class RandomRunsTest {
    private static final int CALLS = 500;
    private static int wrong = 0;

    private final Random random;
    private final long seed;
    private final FieldTower program = new FieldTower();
    private final Oracle oracle = new Oracle();
    private int calls;

    private RandomRunsTest(long seed) {
        this.seed = seed;
        random = new Random(seed);
    }

    public static void main(String[] args) {
        int runs = args.length > 0 ? Integer.parseInt(args[0]) : 150;
        int first = args.length > 1 ? Integer.parseInt(args[1]) : 1;
        for (int seed = first; seed < first + runs && wrong < 20; seed++) {
            new RandomRunsTest(seed).run();
        }
        System.out.println(wrong == 0 ? runs + " runs are as due" : wrong + " answers are not as due");
        if (wrong != 0) {
            System.exit(1);
        }
    }

    private void same(String call, long got, long want) {
        calls++;
        if (got != want) {
            wrong++;
            System.out.println("seed " + seed + ": " + call + " answered " + got + ", due is " + want);
        }
    }

    private static long bit(boolean b) {
        return b ? 1 : 0;
    }

    private void run() {
        while (calls < CALLS && wrong < 20) {
            int kind = random.nextInt(100);
            if (kind < 6) {
                readText(new RandomText(random).text());
            } else if (kind < 16) {
                callState();
            } else if (kind < 22) {
                callLets();
            } else {
                callPlain();
            }
        }
    }

    private void readText(String text) {
        byte[] bytes = text.getBytes(StandardCharsets.ISO_8859_1);
        int filler = (20 - bytes.length % 20) % 20;
        for (int at = 0; at < bytes.length; at += 20) {
            int[] words = new int[5];
            for (int i = 0; i < 20; i++) {
                int b = at + i < bytes.length ? bytes[at + i] & 255 : 32;
                words[i / 4] = words[i / 4] << 8 | b;
            }
            same("feed", program.feed(words[0], words[1], words[2], words[3], words[4]),
                    oracle.feed(words[0], words[1], words[2], words[3], words[4]));
        }
        if (random.nextInt(5) > 0) {
            same("back", program.back(filler), oracle.back(filler));
        }
        int fault = program.read();
        same("read of [" + text + "]", fault, oracle.read());
        same("place of [" + text + "]", program.place(), oracle.place());
        callLets();
    }

    private void callLets() {
        same("count(0)", program.count(0), oracle.count(0));
        int i = random.nextInt(10) - 1;
        for (int what = -1; what <= 4; what++) {
            same("let(" + i + ", " + what + ")", program.let(i, what), oracle.let(i, what));
        }
        int last = program.count(0) - 1;
        same("let(" + last + ", 1)", program.let(last, 1), oracle.let(last, 1));
    }

    private void callState() {
        int slot = random.nextInt(5) - 1;
        switch (random.nextInt(8)) {
            case 0:
                same("hold(" + slot + ")", bit(program.hold(slot)), bit(oracle.hold(slot)));
                break;
            case 1:
                same("restore(" + slot + ")", bit(program.restore(slot)), bit(oracle.restore(slot)));
                break;
            case 2:
                same("undo()", bit(program.undo()), bit(oracle.undo()));
                break;
            case 3:
                int what = random.nextInt(7) - 1;
                same("count(" + what + ")", program.count(what), oracle.count(what));
                break;
            default:
                int n = random.nextInt(20) == 0 ? random.nextInt(16) - 2 : 1 + random.nextInt(12);
                int p = random.nextInt(6) == 0 ? anyInt() : (1 << (n & 15)) + random.nextInt(1 << (n & 15));
                int q = random.nextInt(8) == 0 ? p : oracle.next(p);
                same("change(" + n + ", " + q + ")", bit(program.change(n, q)), bit(oracle.change(n, q)));
                break;
        }
    }

    private int anyInt() {
        int[] edges = {-1, -2, 0, 1, 2, 3, 8190, 8191, 8192, Integer.MAX_VALUE, Integer.MIN_VALUE};
        switch (random.nextInt(4)) {
            case 0: return edges[random.nextInt(edges.length)];
            case 1: return random.nextInt();
            default: return random.nextInt(8192);
        }
    }

    private int fieldNumber() {
        return random.nextInt(25) == 0 ? random.nextInt(17) - 2 : 1 + random.nextInt(12);
    }

    private int elementOf(int n) {
        if (n < 1 || n > 12 || random.nextInt(25) == 0) {
            return random.nextBoolean() ? anyInt() : 1 << Math.floorMod(n, 14);
        }
        return random.nextInt(4) == 0 ? random.nextInt(Math.min(4, 1 << n)) : random.nextInt(1 << n);
    }

    /** Mostly one that divides n. */
    private int below(int n) {
        int d = fieldNumber();
        for (int tries = 0; tries < 6 && (d < 1 || n % d != 0); tries++) {
            d = fieldNumber();
        }
        return d;
    }

    private int choice(int end) {
        return random.nextInt(20) == 0 ? random.nextInt(end + 4) - 2 : random.nextInt(end);
    }

    private void callPlain() {
        int n = fieldNumber();
        int a = elementOf(n);
        int b = elementOf(n);
        int d = below(n);
        int i = random.nextInt(n > 0 ? n + 3 : 3) - 2;
        switch (random.nextInt(21)) {
            case 0: same("modulus(" + n + ")", program.modulus(n), oracle.modulus(n)); break;
            case 1: p1(); break;
            case 2: same("wholes(" + n + ")", program.wholes(n), oracle.wholes(n)); break;
            case 3:
            case 4:
                int w = choice(3);
                same("both(" + n + ", " + a + ", " + b + ", " + w + ")", program.both(n, a, b, w), oracle.both(n, a, b, w));
                break;
            case 5:
                int k = random.nextBoolean() ? anyInt() : random.nextInt(40) - 20;
                same("power(" + n + ", " + a + ", " + k + ")", program.power(n, a, k), oracle.power(n, a, k));
                break;
            case 6:
            case 7:
            case 8:
                int e = choice(11);
                same("element(" + n + ", " + a + ", " + e + ")", program.element(n, a, e), oracle.element(n, a, e));
                break;
            case 9:
                int c = elementOf(d);
                same("raise(" + d + ", " + n + ", " + c + ")", program.raise(d, n, c), oracle.raise(d, n, c));
                break;
            case 10:
                int up = random.nextBoolean() ? oracle.raise(d, n, elementOf(d)) : a;
                same("lower(" + n + ", " + d + ", " + up + ")", program.lower(n, d, up), oracle.lower(n, d, up));
                break;
            case 11:
            case 12:
                boolean norm = random.nextBoolean();
                same("down(" + n + ", " + d + ", " + a + ", " + norm + ")", program.down(n, d, a, norm), oracle.down(n, d, a, norm));
                break;
            case 13:
            case 14:
                same("least(" + n + ", " + d + ", " + a + ", " + i + ")", program.least(n, d, a, i), oracle.least(n, d, a, i));
                break;
            case 15:
                int s = choice(2);
                same("solve(" + n + ", " + a + ", " + b + ", " + s + ")", program.solve(n, a, b, s), oracle.solve(n, a, b, s));
                break;
            case 16:
                int p = anyInt();
                same("value(" + n + ", " + p + ", " + a + ")", program.value(n, p, a), oracle.value(n, p, a));
                break;
            case 17:
                int x = n > 0 && n < 13 ? choice((1 << n) - 1) : anyInt();
                int y = choice(2);
                same("coset(" + n + ", " + x + ", " + y + ")", program.coset(n, x, y), oracle.coset(n, x, y));
                break;
            case 18:
                int t = choice(6);
                same("code(" + n + ", " + t + ")", program.code(n, t), oracle.code(n, t));
                break;
            case 19: rootsAndField(n, a); break;
            default:
                int letter = choice(26);
                int at = random.nextInt(50) - 2;
                same("written(" + n + ", " + a + ", " + letter + ", " + at + ")", program.written(n, a, letter, at), oracle.written(n, a, letter, at));
                break;
        }
    }

    private void p1() {
        int p = anyInt();
        int i = random.nextInt(14) - 2;
        same("whole(" + p + ")", program.whole(p), oracle.whole(p));
        same("next(" + p + ")", program.next(p), oracle.next(p));
        same("factor(" + p + ", -1)", program.factor(p, -1), oracle.factor(p, -1));
        same("factor(" + p + ", " + i + ")", program.factor(p, i), oracle.factor(p, i));
        same("period(" + p + ")", program.period(p), oracle.period(p));
    }

    private void rootsAndField(int n, int a) {
        int[] powers = {1, 2, 3, 5, 7, 9, 15, 31, 63, 4095, 9999, 10000, 0, -3, random.nextInt(9999) + 1};
        int k = powers[random.nextInt(powers.length)];
        int what = choice(2);
        int b = random.nextBoolean() ? a : oracle.power(n, a, Math.max(1, k));
        same("roots(" + n + ", " + b + ", " + k + ", " + what + ")", program.roots(n, b, k, what), oracle.roots(n, b, k, what));
        int w = choice(6);
        if (w != 3 || n < 10 || random.nextInt(20) == 0) {
            same("field(" + n + ", " + w + ")", program.field(n, w), oracle.field(n, w));
        }
    }

    /** Texts that mostly are right, with something spoilt now and then. */
    private static final class RandomText {
        private static final String[] NAMES = {"a", "b", "cc", "xx", "lets", "abcdefgh", "modulu", "q", "r", "s"};
        private final Random random;
        private final StringBuilder out = new StringBuilder();
        private final java.util.List<String> told = new java.util.ArrayList<>();
        private final java.util.List<Integer> fields = new java.util.ArrayList<>();
        private final boolean oddTokens;
        private final boolean oddSense;

        RandomText(Random random) {
            this.random = random;
            int kind = random.nextInt(6);
            oddTokens = kind == 0;
            oddSense = kind == 1;
        }

        private boolean spoiltToken() {
            return oddTokens && random.nextInt(25) == 0;
        }

        private boolean spoilt() {
            return oddSense && random.nextInt(8) == 0;
        }

        String text() {
            int lines = random.nextInt(oddTokens ? 11 : 9);
            for (int i = 0; i < lines; i++) {
                if (random.nextInt(3) == 0) {
                    modulusLine();
                } else {
                    letLine();
                }
                put(random.nextInt(4) == 0 ? "\n" : "");
            }
            if (oddTokens && random.nextInt(3) == 0 && out.length() > 0) {
                out.setLength(random.nextInt(out.length()));
            }
            String text = out.toString();
            return text.length() > 1500 ? text.substring(0, 1500) : text;
        }

        private void put(String token) {
            if (spoiltToken()) {
                String[] odd = {"", "-", "A", "(", ")", "^", "x", "12345678901234", "abcdefghi", "modulus", ";", "\u00e9", "9", "let"};
                token = odd[random.nextInt(odd.length)];
            }
            char last = out.length() > 0 ? out.charAt(out.length() - 1) : ' ';
            boolean glued = token.length() > 0 && (Character.isLetter(last) && Character.isLetter(token.charAt(0))
                    || Character.isDigit(last) && Character.isDigit(token.charAt(0)));
            String[] blanks = {" ", " ", "\t", "\r\n", "  "};
            out.append(glued || random.nextInt(3) == 0 ? blanks[random.nextInt(blanks.length)] : "").append(token);
        }

        private int fieldNumber() {
            int[] often = {12, 12, 12, 6, 4, 3, 2, 1, 10, 5, 8, 9};
            return spoilt() ? random.nextInt(16) : random.nextBoolean() ? often[random.nextInt(often.length)] : 1 + random.nextInt(12);
        }

        private void modulusLine() {
            int n = fieldNumber();
            put("modulus");
            put(String.valueOf(n));
            int p = (1 << (n & 15)) + random.nextInt(1 << (n & 15));
            int q = spoilt() ? p : new Oracle().next(p - 1);
            put(Integer.toBinaryString(q < 0 ? p : q));
            put(";");
        }

        private void letLine() {
            int n = fieldNumber();
            String name = NAMES[random.nextInt(NAMES.length)];
            for (int i = 0; i < 30 && told.contains(name) && !spoilt(); i++) {
                name = NAMES[random.nextInt(NAMES.length)];
            }
            put("let");
            put(name);
            put(random.nextInt(9) == 0 ? "0" + n : String.valueOf(n));
            expression(n, oddTokens && random.nextInt(6) == 0 ? 10 : 3);
            put(";");
            told.add(name);
            fields.add(n);
        }

        private void expression(int n, int depth) {
            int terms = 1 + random.nextInt(3);
            for (int i = 0; i < terms; i++) {
                if (i > 0) {
                    put(random.nextInt(3) == 0 ? "+" : random.nextInt(3) == 0 ? "/" : "*");
                }
                atom(n, depth);
                if (random.nextInt(4) == 0) {
                    put("^");
                    put(String.valueOf(spoilt() ? 10000 : random.nextInt(random.nextBoolean() ? 10000 : 4)));
                }
            }
        }

        private void atom(int n, int depth) {
            int kind = random.nextInt(depth > 3 ? 2 : 8);
            if (depth > 0 && (kind < 2)) {
                put("(");
                expression(n, depth - 1);
                put(")");
            } else if (kind < 4) {
                put("x");
            } else if (kind < 6) {
                put(spoilt() ? "1020" : Integer.toBinaryString(random.nextInt(random.nextBoolean() ? 8192 : 4)));
            } else {
                use(n);
            }
        }

        private void use(int n) {
            for (int tries = 0; tries < 5 && !told.isEmpty(); tries++) {
                int i = random.nextInt(told.size());
                if (spoilt() || fields.get(i) > 0 && n % fields.get(i) == 0) {
                    put(told.get(i));
                    return;
                }
            }
            put(spoilt() ? "nobody" : "x");
        }
    }
}
