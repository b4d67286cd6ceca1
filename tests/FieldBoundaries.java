import java.math.BigInteger;
import java.util.ArrayList;
import java.util.Arrays;
import java.util.List;

/**
 * The boundary cases that the document names of polynomials, of elements and of fields in one another: one
 * method a sentence, which it quotes. Whatever is not a number of the sentence itself is searched for here.
 */
final class FieldBoundaries extends Cases {
    private static final int[] NO_FIELDS = {LOWEST, -12, -1, 0, 13, 14, 31, 32, 33, 44, 64, GREATEST};
    private static final boolean[] SPLIT = split();

    /** A call that asks for an element of a field. */
    private interface Call {
        long of(int n, int a);
    }

    static void run() {
        polynomials();
        sumsAndPowers();
        elements();
        fieldsInOneAnother();
        downAndLeast();
        equations();
        factors();
        cosetsAndCodes();
        fields();
        writtenOut();
        noneAheadOfMinusTwo();
    }

    // ---- what is searched for

    private static boolean[] split() {
        boolean[] split = new boolean[8192];
        for (int a = 2; a < 4096; a++) {
            for (int b = 2; b < 4096 && product(a, b) < 8192; b++) {
                split[(int) product(a, b)] = true;
            }
        }
        return split;
    }

    private static int times(FieldTower t, int n, int a, int b) {
        return remainder(product(a, b), t.modulus(n));
    }

    private static int power(FieldTower t, int n, int a, int k) {
        int result = 1;
        for (int i = 0; i < k; i++) {
            result = times(t, n, result, a);
        }
        return result;
    }

    /** The n first conjugates. */
    private static int[] conjugates(FieldTower t, int n, int a) {
        int[] result = new int[n];
        int at = a;
        for (int i = 0; i < n; i++) {
            result[i] = at;
            at = times(t, n, at, at);
        }
        return result;
    }

    private static int sum(int[] elements, int which) {
        int sum = 0;
        for (int i = 0; i < elements.length; i++) {
            sum ^= (which >> i & 1) == 1 ? elements[i] : 0;
        }
        return sum;
    }

    private static boolean isNormal(FieldTower t, int n, int a) {
        int[] all = conjugates(t, n, a);
        for (int which = 1; which < 1 << n; which++) {
            if (sum(all, which) == 0) {
                return false;
            }
        }
        return true;
    }

    private static int order(FieldTower t, int n, int a) {
        int at = a;
        int k = 1;
        while (at != 1) {
            at = times(t, n, at, a);
            k++;
        }
        return k;
    }

    private static int degree(FieldTower t, int n, int a) {
        int[] all = conjugates(t, n, a);
        for (int d = 1; d < n; d++) {
            if (n % d == 0 && all[d] == a) {
                return d;
            }
        }
        return n;
    }

    private static int evaluate(FieldTower t, int n, int polynomial, int a) {
        int result = 0;
        for (int k = 0; k < 13; k++) {
            result ^= (polynomial >> k & 1) == 1 ? power(t, n, a, k) : 0;
        }
        return result;
    }

    private static void noSuchElement(String name, Call call) {
        for (int n : NO_FIELDS) {
            due(name + " of 0, n " + n, call.of(n, 0), NONE);
            due(name + " of 1, n " + n, call.of(n, 1), NONE);
        }
        for (int n = 1; n <= 12; n++) {
            int[] none = {-1, 1 << n, (1 << n) + 1, LOWEST, GREATEST};
            for (int a : none) {
                due(name + " of " + a + ", n " + n, call.of(n, a), NONE);
            }
            due(name + " of 1, n " + n + " is none", call.of(n, 1) == NONE, false);
            due(name + " of the greatest, n " + n + " is none", call.of(n, (1 << n) - 1) == NONE, false);
        }
    }

    // ---- polynomials

    private static void polynomials() {
        noSuchModulus();
        degreesOneToTwelve();
        productOfTwo();
        nextGreater();
        howManyWholes();
        valuesOfPolynomials();
    }

    private static void noSuchModulus() {
        sentence(8, "MODULUS of the FIELD n; NONE: no such one.");
        FieldTower t = new FieldTower();
        for (int n : NO_FIELDS) {
            due("modulus(" + n + ")", t.modulus(n), NONE);
        }
        for (int n = 1; n <= 12; n++) {
            int least = 1 << n;
            while (SPLIT[least]) {
                least++;
            }
            due("modulus(" + n + ")", t.modulus(n), least);
        }
    }

    private static void degreesOneToTwelve() {
        sentence(9, "Whether a POLYNOMIAL (of a degree 1 .. 12) is not SPLIT (1, 0); NONE: no such one.");
        FieldTower t = new FieldTower();
        for (int p = 2; p < 8192; p++) {
            due("whole(" + p + ")", t.whole(p), SPLIT[p] ? 0 : 1);
        }
        int[] none = {LOWEST, -8191, -3, -2, -1, 0, 1, 8192, 8193, 8219, 16384, GREATEST};
        for (int p : none) {
            due("whole(" + p + ")", t.whole(p), NONE);
        }
    }

    private static void productOfTwo() {
        sentence(9, "SPLIT: it is the product of two of degrees of 1 at least.");
        FieldTower t = new FieldTower();
        int[][] rows = {{2, 1}, {3, 1}, {4, 0}, {5, 0}, {6, 0}, {7, 1}, {21, 0}, {27, 0}, {8191, 1}, {8190, 0}, {4096, 0}, {4097, 0}, {4105, 1}};
        for (int[] row : rows) {
            due("whole(" + row[0] + ")", t.whole(row[0]), row[1]);
        }
        due("the square of one of degree 6", t.whole((int) product(67, 67)), 0);
        due("the product of two of degree 6", t.whole((int) product(67, 115)), 0);
    }

    private static void nextGreater() {
        sentence(10, "The next greater POLYNOMIAL (of a degree 1 .. 12) that is not SPLIT; NONE: none, below 0.");
        FieldTower t = new FieldTower();
        int following = NONE;
        for (int p = 8191; p >= 0; p--) {
            due("next(" + p + ")", t.next(p), following);
            following = p >= 2 && !SPLIT[p] ? p : following;
        }
        int[] none = {LOWEST, -2, -1, 8191, 8192, 8193, 8218, 65536, GREATEST - 1, GREATEST};
        for (int p : none) {
            due("next(" + p + ")", t.next(p), NONE);
        }
    }

    private static void howManyWholes() {
        sentence(11, "How many POLYNOMIALS of degree n are not SPLIT; NONE: no such n.");
        FieldTower t = new FieldTower();
        for (int n = 1; n <= 12; n++) {
            int many = 0;
            for (int p = 1 << n; p < 2 << n; p++) {
                many += SPLIT[p] ? 0 : 1;
            }
            due("wholes(" + n + ")", t.wholes(n), many);
        }
        for (int n : NO_FIELDS) {
            due("wholes(" + n + ")", t.wholes(n), NONE);
        }
    }

    private static void valuesOfPolynomials() {
        sentence(20, "What a POLYNOMIAL (0 .. 8191) comes to at an element of the FIELD n; NONE: no such ones.");
        FieldTower t = new FieldTower();
        int[] polynomials = {0, 1, 2, 3, 4095, 4096, 8190, 8191};
        for (int n = 1; n <= 12; n++) {
            int[] elements = {0, 1, (1 << n) - 1, 1 << (n - 1)};
            for (int a : elements) {
                for (int p : polynomials) {
                    due("value(" + n + ", " + p + ", " + a + ")", t.value(n, p, a), evaluate(t, n, p, a));
                }
                int[] none = {LOWEST, -1, 8192, 8193, GREATEST};
                for (int p : none) {
                    due("value(" + n + ", " + p + ", " + a + ")", t.value(n, p, a), NONE);
                }
            }
            due("the modulus at x", t.value(n, t.modulus(n), n == 1 ? 0 : 2), 0);
        }
        noSuchElement("value of 0", (n, a) -> t.value(n, 0, a));
        noSuchElement("value of 8191", (n, a) -> t.value(n, 8191, a));
    }

    // ---- sums, products, powers

    private static void sumsAndPowers() {
        elementsOfAField();
        sumProductQuotient();
        powersBelowNought();
    }

    private static void elementsOfAField() {
        sentence(12, "The FIELD n: POLYNOMIALS of degrees below n (0, too), 0 .. 2 to the n less 1; "
                + "sums bit by bit; products less multiples of the MODULUS.");
        for (int n = 1; n <= 12; n++) {
            FieldTower t = new FieldTower();
            for (int round = 0; round < 2; round++) {
                int last = (1 << n) - 1;
                int[] elements = {0, 1, last, 1 << (n - 1), last / 3};
                for (int a : elements) {
                    for (int b : elements) {
                        due("sum of " + a + ", " + b + " in " + n, t.both(n, a, b, 0), a ^ b);
                        due("product of " + a + ", " + b + " in " + n, t.both(n, a, b, 1), times(t, n, a, b));
                    }
                }
                t.change(n, t.next(t.modulus(n)));
            }
        }
    }

    private static void sumProductQuotient() {
        sentence(12, "Of two elements of the FIELD n: what 0 the sum, 1 the product, "
                + "2 the first by the second one (-2: that is 0). NONE: no such ones.");
        FieldTower t = new FieldTower();
        for (int n = 1; n <= 4; n++) {
            for (int a = 0; a < 1 << n; a++) {
                due(a + " by 0 in " + n, t.both(n, a, 0, 2), -2);
                for (int b = 1; b < 1 << n; b++) {
                    due(a + " by " + b + " in " + n, times(t, n, t.both(n, a, b, 2), b), a);
                }
            }
        }
        due("the greatest by itself", t.both(12, 4095, 4095, 2), 1);
        for (int what = 0; what <= 2; what++) {
            int asked = what;
            noSuchElement("what " + what + ", the first", (n, a) -> t.both(n, a, 1, asked));
            noSuchElement("what " + what + ", the second", (n, b) -> t.both(n, 1, b, asked));
        }
        int[] none = {LOWEST, -2, -1, 3, 4, GREATEST};
        for (int what : none) {
            due("both(3, 1, 1, " + what + ")", t.both(3, 1, 1, what), NONE);
            due("both(3, 1, 0, " + what + ")", t.both(3, 1, 0, what), NONE);
        }
    }

    private static void powersBelowNought() {
        sentence(13, "a to the k (below 0: of the INVERSE; 0: 1); -2: a is 0, k below 0; NONE: no such one.");
        FieldTower t = new FieldTower();
        for (int n = 1; n <= 5; n++) {
            for (int a = 0; a < 1 << n; a++) {
                for (int k = 0; k <= 1 << n; k++) {
                    due(a + " to the " + k + " in " + n, t.power(n, a, k), power(t, n, a, k));
                    if (a > 0 && k > 0) {
                        due(a + " to the -" + k + " in " + n, times(t, n, t.power(n, a, -k), power(t, n, a, k)), 1);
                    }
                }
            }
        }
        int[] below = {-1, -2, -4095, LOWEST, LOWEST + 1};
        for (int k : below) {
            due("0 to the " + k, t.power(12, 0, k), -2);
            due("1 to the " + k, t.power(12, 1, k), 1);
        }
        // 2 to the 31 is 2 to the 7 less multiples of 4095, and x to the 7 times its inverse is 1.
        due("x to the lowest", times(t, 12, t.power(12, 2, LOWEST), power(t, 12, 2, 128)), 1);
        due("x to the greatest", t.power(12, 2, GREATEST), power(t, 12, 2, 127));
        due("0 to the 0", t.power(12, 0, 0), 1);
        due("0 to the greatest", t.power(12, 0, GREATEST), 0);
        noSuchElement("to the 0", (n, a) -> t.power(n, a, 0));
        noSuchElement("to the -1", (n, a) -> t.power(n, a, -1));
        noSuchElement("to the lowest", (n, a) -> t.power(n, a, LOWEST));
    }

    // ---- elements

    private static void elements() {
        minusTwoOfNought();
        noneForOthers();
        inverseAndRoot();
        leastPowerThatIsOne();
        powerOfTheLeastPrimitive();
        degreesAndConjugates();
        noSumOfSome();
        byWhichConjugates();
        dualsByTraces();
    }

    private static void minusTwoOfNought() {
        sentence(14, "INVERSE (of an element above 0)");
        FieldTower t = new FieldTower();
        int[] want = {-2, 0, -2, -2, 1, 0, 1, 0, 0, 0, -2};
        for (int n = 1; n <= 12; n++) {
            for (int what = 0; what <= 10; what++) {
                due("element(" + n + ", 0, " + what + ")", t.element(n, 0, what), want[what]);
            }
        }
    }

    private static void noneForOthers() {
        sentence(14, "4 DEGREE, 5 the least CONJUGATE, 6 how many unlike CONJUGATES, 7 whether it is PRIMITIVE (1, 0), "
                + "8 whether NORMAL (1, 0), 9 COORDINATES, 10 its DUAL (-2: it is not NORMAL). NONE for others.");
        FieldTower t = new FieldTower();
        int[] others = {LOWEST, -2, -1, 11, 12, GREATEST};
        for (int what : others) {
            due("element(3, 0, " + what + ")", t.element(3, 0, what), NONE);
            due("element(3, 1, " + what + ")", t.element(3, 1, what), NONE);
        }
        for (int what = 0; what <= 10; what++) {
            int asked = what;
            noSuchElement("what " + what, (n, a) -> t.element(n, a, asked));
        }
    }

    private static void inverseAndRoot() {
        sentence(14, "Of an element: what 0 INVERSE, 1 the square root, 2 ORDER, 3 LOGARITHM (0, 2, 3: -2 of 0)");
        FieldTower t = new FieldTower();
        for (int n = 1; n <= 12; n++) {
            int[] elements = {1, (1 << n) - 1, 1 << (n - 1)};
            for (int a : elements) {
                due(a + " times its INVERSE in " + n, times(t, n, a, t.element(n, a, 0)), 1);
                int root = t.element(n, a, 1);
                due("the square root's square in " + n, times(t, n, root, root), a);
            }
        }
    }

    private static void leastPowerThatIsOne() {
        sentence(14, "ORDER of a above 0: the least k above 0 by which a to the k is 1. "
                + "PRIMITIVE: its ORDER is 2 to the n less 1.");
        FieldTower t = new FieldTower();
        for (int n = 1; n <= 12; n++) {
            due("ORDER of 1 in " + n, t.element(n, 1, 2), 1);
            due("1 is PRIMITIVE in " + n, t.element(n, 1, 7), n == 1 ? 1 : 0);
            int step = n < 8 ? 1 : 1 << (n - 5);
            for (int a = 1; a < 1 << n; a += step) {
                int order = order(t, n, a);
                due("ORDER of " + a + " in " + n, t.element(n, a, 2), order);
                due(a + " is PRIMITIVE in " + n, t.element(n, a, 7), order == (1 << n) - 1 ? 1 : 0);
            }
        }
    }

    private static void powerOfTheLeastPrimitive() {
        sentence(14, "LOGARITHM: to which power (0 on) the least PRIMITIVE element is a.");
        for (int n = 1; n <= 8; n++) {
            FieldTower t = new FieldTower();
            for (int round = 0; round < 2; round++) {
                int primitive = leastPrimitive(t, n);
                int at = 1;
                for (int k = 0; k < (1 << n) - 1; k++) {
                    due("LOGARITHM of " + at + " in " + n, t.element(n, at, 3), k);
                    at = times(t, n, at, primitive);
                }
                t.change(n, t.next(t.modulus(n)));
            }
        }
        FieldTower t = new FieldTower();
        due("LOGARITHM of 1 in 12", t.element(12, 1, 3), 0);
        int primitive = leastPrimitive(t, 12);
        due("LOGARITHM of itself in 12", t.element(12, primitive, 3), 1);
        due("LOGARITHM of the last", t.element(12, power(t, 12, primitive, 4094), 3), 4094);
    }

    private static int leastPrimitive(FieldTower t, int n) {
        int a = 1;
        while (order(t, n, a) != (1 << n) - 1) {
            a++;
        }
        return a;
    }

    private static void degreesAndConjugates() {
        sentence(14, "CONJUGATES of a: a, its square, the square of that, and so on. "
                + "An element of the FIELD n is of DEGREE d: the least d that divides n by which a to the (2 to the d) is a.");
        FieldTower t = new FieldTower();
        for (int n = 1; n <= 12; n++) {
            int step = n < 9 ? 1 : n < 12 ? 5 : 13;
            for (int a = 0; a < 1 << n; a += step) {
                int least = a;
                for (int conjugate : conjugates(t, n, a)) {
                    least = Math.min(least, conjugate);
                }
                due("DEGREE of " + a + " in " + n, t.element(n, a, 4), degree(t, n, a));
                due("the least CONJUGATE of " + a + " in " + n, t.element(n, a, 5), least);
                due("CONJUGATES of " + a + " in " + n, t.element(n, a, 6), degree(t, n, a));
            }
        }
        int[] divisors = {1, 2, 3, 4, 6, 12};
        for (int d : divisors) {
            due("DEGREE of x of " + d, t.element(12, t.raise(d, 12, d == 1 ? 1 : 2), 4), d);
        }
    }

    private static void noSumOfSome() {
        sentence(14, "NORMAL: its n first CONJUGATES (itself ahead): no sum of some of them (one at least) is 0.");
        FieldTower t = new FieldTower();
        for (int n = 1; n <= 9; n++) {
            for (int a = 0; a < 1 << n; a++) {
                due(a + " is NORMAL in " + n, t.element(n, a, 8), isNormal(t, n, a) ? 1 : 0);
            }
        }
        due("1 is NORMAL in 1", t.element(1, 1, 8), 1);
        due("1 is NORMAL in 2", t.element(2, 1, 8), 0);
        for (int a = 0; a < 64; a++) {
            due(a + " is NORMAL in 12", t.element(12, a, 8), isNormal(t, 12, a) ? 1 : 0);
        }
    }

    private static int leastNormal(FieldTower t, int n) {
        int a = 0;
        while (!isNormal(t, n, a)) {
            a++;
        }
        return a;
    }

    private static void byWhichConjugates() {
        sentence(14, "COORDINATES of a: by which of the n first CONJUGATES of the least NORMAL element a is the sum "
                + "(bit i: the i-th one, itself being the 0-th).");
        for (int n = 1; n <= 12; n++) {
            FieldTower t = new FieldTower();
            for (int round = 0; round < 2; round++) {
                int[] all = conjugates(t, n, leastNormal(t, n));
                for (int i = 0; i < n; i++) {
                    due("COORDINATES of CONJUGATE " + i + " in " + n, t.element(n, all[i], 9), 1 << i);
                }
                due("COORDINATES of 0 in " + n, t.element(n, 0, 9), 0);
                due("COORDINATES of 1 in " + n, t.element(n, 1, 9), (1 << n) - 1);
                due("COORDINATES of a sum in " + n, t.element(n, sum(all, 1365), 9), 1365 & (1 << n) - 1);
                t.change(n, t.next(t.modulus(n)));
            }
        }
    }

    private static void dualsByTraces() {
        sentence(14, "DUAL of a NORMAL element b: the element c for which the TRACE down to 1 of c times the i-th CONJUGATE of b "
                + "is 1 for i 0, 0 for others.");
        FieldTower t = new FieldTower();
        for (int n = 1; n <= 6; n++) {
            for (int b = 0; b < 1 << n; b++) {
                int dual = -2;
                for (int c = 0; c < 1 << n && isNormal(t, n, b); c++) {
                    dual = tracesWith(t, n, c, b) == 1 ? c : dual;
                }
                due("DUAL of " + b + " in " + n, t.element(n, b, 10), dual);
            }
        }
        for (int n = 7; n <= 12; n++) {
            int b = leastNormal(t, n);
            due("traces with the DUAL in " + n, tracesWith(t, n, t.element(n, b, 10), b), 1);
            due("DUAL of 1 in " + n, t.element(n, 1, 10), -2);
        }
    }

    /** Bit i: the trace of c times the i-th conjugate of b. */
    private static int tracesWith(FieldTower t, int n, int c, int b) {
        int traces = 0;
        int[] all = conjugates(t, n, b);
        for (int i = 0; i < n; i++) {
            traces |= sum(conjugates(t, n, times(t, n, c, all[i])), -1) << i;
        }
        return traces;
    }

    // ---- fields in one another

    private static void fieldsInOneAnother() {
        xOfItself();
        bySumsAndProducts();
        byTheGreatestBetween();
        theLeastThatAgrees();
        raisedOrNot();
        theElementThatIsRaised();
        loweredOrNot();
    }

    private static void xOfItself() {
        sentence(15, "r(n, n) is x.");
        FieldTower t = new FieldTower();
        for (int n = 1; n <= 12; n++) {
            int[] elements = {0, 1, (1 << n) - 1, 1 << (n - 1)};
            for (int a : elements) {
                due("raise(" + n + ", " + n + ", " + a + ")", t.raise(n, n, a), a);
                due("lower(" + n + ", " + n + ", " + a + ")", t.lower(n, n, a), a);
            }
        }
        t.change(1, 3);
        due("raise(1, 1, 1) by x + 1", t.raise(1, 1, 1), 1);
        due("raise(1, 1, 0) by x + 1", t.raise(1, 1, 0), 0);
    }

    private static void bySumsAndProducts() {
        sentence(15, "all others by sums and products; 1 is 1.");
        FieldTower t = new FieldTower();
        for (int n = 1; n <= 12; n++) {
            for (int d = 1; d <= n; d++) {
                if (n % d != 0) {
                    continue;
                }
                due("1 of " + d + " in " + n, t.raise(d, n, 1), 1);
                due("0 of " + d + " in " + n, t.raise(d, n, 0), 0);
                int last = (1 << d) - 1;
                int[] elements = {1, last, 1 << (d - 1), last / 3};
                for (int a : elements) {
                    for (int b : elements) {
                        due("a sum of " + d + " in " + n, t.raise(d, n, a ^ b), t.raise(d, n, a) ^ t.raise(d, n, b));
                        due("a product of " + d + " in " + n, t.raise(d, n, times(t, d, a, b)),
                                times(t, n, t.raise(d, n, a), t.raise(d, n, b)));
                    }
                }
            }
        }
    }

    private static void byTheGreatestBetween() {
        sentence(15, "does d divide a greater e below n that divides n (the greatest such e): "
                + "r(d, n) is r(d, e) RAISED to n.");
        FieldTower t = new FieldTower();
        int[][] rows = {{1, 2, 4}, {1, 3, 6}, {2, 4, 8}, {1, 4, 8}, {1, 3, 9}, {1, 5, 10}, {3, 6, 12}, {2, 6, 12}, {1, 6, 12}};
        for (int round = 0; round < 2; round++) {
            for (int[] row : rows) {
                for (int a = 0; a < 1 << row[0]; a++) {
                    due(row[0] + " over " + row[1] + " to " + row[2], t.raise(row[0], row[2], a),
                            t.raise(row[1], row[2], t.raise(row[0], row[1], a)));
                }
            }
            int[] changed = {1, 3, 4, 6, 8, 9, 10, 12};
            for (int n : changed) {
                due("change of " + n, round > 0 || t.change(n, t.next(t.modulus(n))), true);
            }
        }
    }

    private static void theLeastThatAgrees() {
        sentence(15, "Else it is the least element of the FIELD n that makes MODULUS of d 0 there, and by which, "
                + "for each greater e below n that divides n, each element of the FIELD g (g the greatest number that "
                + "divides d and e), RAISED to d and on to n, becomes what it does RAISED to e and on to n.");
        int[][] plain = {{1, 2}, {1, 3}, {1, 5}, {1, 7}, {1, 11}, {2, 4}, {2, 6}, {3, 6}, {4, 8}, {3, 9}, {2, 10}, {5, 10}, {6, 12}};
        FieldTower t = new FieldTower();
        for (int round = 0; round < 3; round++) {
            for (int[] row : plain) {
                int least = 0;
                while (evaluate(t, row[1], t.modulus(row[0]), least) != 0) {
                    least++;
                }
                // x of the field 1 is no element of its own: 0 or 1, which become themselves.
                int got = row[0] == 1 ? t.raise(1, row[1], least) : t.raise(row[0], row[1], 2);
                due("r(" + row[0] + ", " + row[1] + ")", got, least);
            }
            due("r(4, 12)", t.raise(4, 12, 2), leastOfFourInTwelve(t));
            int[] changed = {1, 3, 4, 6, 8, 9, 10, 12};
            for (int n : changed) {
                int following = t.next(t.modulus(n));
                t.change(n, following >= 2 << n ? t.next(1 << n) : following);
            }
        }
        for (int four = t.next(15); four < 32; four = t.next(four)) {
            for (int six = t.next(63); six < 128; six = t.next(six)) {
                t.change(4, four);
                t.change(6, six);
                due("r(4, 12) by " + four + ", " + six, t.raise(4, 12, 2), leastOfFourInTwelve(t));
            }
        }
    }

    private static int leastOfFourInTwelve(FieldTower t) {
        int two = t.raise(6, 12, t.raise(2, 6, 2));
        int least = 0;
        while (evaluate(t, 12, t.modulus(4), least) != 0 || evaluate(t, 12, t.raise(2, 4, 2), least) != two) {
            least++;
        }
        return least;
    }

    private static void raisedOrNot() {
        sentence(15, "An element of the FIELD d RAISED to n; -2: d does not divide n; NONE: no such ones.");
        FieldTower t = new FieldTower();
        for (int d = 1; d <= 12; d++) {
            for (int n = 1; n <= 12; n++) {
                int last = (1 << d) - 1;
                due("raise(" + d + ", " + n + ", " + last + ") is -2", t.raise(d, n, last) == -2, n % d != 0);
                due("raise(" + d + ", " + n + ", 0)", t.raise(d, n, 0), n % d == 0 ? 0 : -2);
                due("raise(" + d + ", " + n + ", " + (last + 1) + ")", t.raise(d, n, last + 1), NONE);
                due("raise(" + d + ", " + n + ", -1)", t.raise(d, n, -1), NONE);
            }
            for (int n : NO_FIELDS) {
                due("raise(" + d + ", " + n + ", 0)", t.raise(d, n, 0), NONE);
                due("raise(" + n + ", " + d + ", 0)", t.raise(n, d, 0), NONE);
            }
        }
        noSuchElement("raise to 12", (d, a) -> t.raise(d, 12, a));
        noSuchElement("raise to itself", (d, a) -> t.raise(d, d, a));
    }

    private static void loweredOrNot() {
        sentence(16, "An element of the FIELD n LOWERED to d; -2: there is none, d does not divide n; NONE: no such ones.");
        FieldTower t = new FieldTower();
        for (int n = 1; n <= 12; n++) {
            for (int d = 1; d <= 12; d++) {
                if (n % d == 0) {
                    lowerAll(t, n, d);
                } else {
                    due("lower(" + n + ", " + d + ", 0)", t.lower(n, d, 0), -2);
                    due("lower(" + n + ", " + d + ", 1)", t.lower(n, d, 1), -2);
                }
                due("lower of one too great", t.lower(n, d, 1 << n), NONE);
                due("lower of one below 0", t.lower(n, d, -1), NONE);
            }
            for (int d : NO_FIELDS) {
                due("lower(" + n + ", " + d + ", 0)", t.lower(n, d, 0), NONE);
                due("lower(" + d + ", " + n + ", 0)", t.lower(d, n, 0), NONE);
            }
        }
        noSuchElement("lower to 1", (n, a) -> t.lower(n, 1, a));
        int four = t.raise(4, 12, 9);
        due("the first call of an object", new FieldTower().lower(12, 4, four), 9);
        due("change(6, 97)", t.change(6, 97), true);
        due("the first call behind a change", t.lower(12, 4, leastOfFourInTwelve(changed(6, 97))), 2);
    }

    private static FieldTower changed(int n, int polynomial) {
        FieldTower t = new FieldTower();
        due("change(" + n + ", " + polynomial + ")", t.change(n, polynomial), true);
        return t;
    }

    private static void theElementThatIsRaised() {
        sentence(16, "LOWERED to d: the element of the FIELD d that is RAISED to it.");
        FieldTower t = new FieldTower();
        for (int n = 1; n <= 12; n++) {
            for (int d = 1; d <= n; d++) {
                if (n % d == 0) {
                    int last = (1 << d) - 1;
                    due("the last of " + d + " there and back from " + n, t.lower(n, d, t.raise(d, n, last)), last);
                }
            }
        }
    }

    private static void lowerAll(FieldTower t, int n, int d) {
        int[] want = new int[1 << n];
        Arrays.fill(want, -2);
        for (int a = 0; a < 1 << d; a++) {
            want[t.raise(d, n, a)] = a;
        }
        for (int a = 0; a < 1 << n; a++) {
            due("lower(" + n + ", " + d + ", " + a + ")", t.lower(n, d, a), want[a]);
        }
    }

    // ---- traces, norms, least polynomials

    private static void downAndLeast() {
        sumOrProductOfThese();
        downOrNot();
        theOneOfLeastDegree();
        leastOrNot();
    }

    private static void sumOrProductOfThese() {
        sentence(17, "TRACE down to d (d divides n): the sum of a to the (2 to the (d times i)), "
                + "i from 0 on below n by d, LOWERED to d; NORM: the product of these, LOWERED.");
        FieldTower t = new FieldTower();
        for (int n = 1; n <= 12; n++) {
            int last = (1 << n) - 1;
            int[] elements = {0, 1, last, 1 << (n - 1), last / 3, last / 5};
            for (int d = 1; d <= n; d++) {
                for (int a : elements) {
                    if (n % d == 0) {
                        int[] all = conjugates(t, n, a);
                        int sum = 0;
                        int product = 1;
                        for (int i = 0; i < n / d; i++) {
                            sum ^= all[d * i];
                            product = times(t, n, product, all[d * i]);
                        }
                        due("TRACE of " + a + " from " + n + " to " + d, t.raise(d, n, t.down(n, d, a, false)), sum);
                        due("NORM of " + a + " from " + n + " to " + d, t.raise(d, n, t.down(n, d, a, true)), product);
                    }
                }
            }
            due("TRACE to itself", t.down(n, n, last, false), last);
            due("NORM to itself", t.down(n, n, last, true), last);
            due("NORM of 0", t.down(n, 1, 0, true), 0);
            due("TRACE of 1", t.down(n, 1, 1, false), n % 2);
        }
    }

    private static void downOrNot() {
        sentence(17, "TRACE, or (norm) NORM of an element of the FIELD n down to d; "
                + "-2: d does not divide n; NONE: no such ones.");
        FieldTower t = new FieldTower();
        boolean[] either = {false, true};
        for (boolean norm : either) {
            for (int n = 1; n <= 12; n++) {
                for (int d = 1; d <= 12; d++) {
                    due("down(" + n + ", " + d + ") is -2", t.down(n, d, 1, norm) == -2, n % d != 0);
                    due("down(" + n + ", " + d + ") of one too great", t.down(n, d, 1 << n, norm), NONE);
                    due("down(" + n + ", " + d + ") of one below 0", t.down(n, d, -1, norm), NONE);
                }
                for (int d : NO_FIELDS) {
                    due("down(" + n + ", " + d + ")", t.down(n, d, 1, norm), NONE);
                    due("down(" + d + ", " + n + ")", t.down(d, n, 1, norm), NONE);
                }
            }
            noSuchElement("down to 1", (n, a) -> t.down(n, 1, a, norm));
            t.raise(4, 12, 1);
            int want = t.down(12, 4, 77, norm);
            due("the first call of an object", new FieldTower().down(12, 4, 77, norm), want);
            FieldTower again = changed(12, 4179);
            again.raise(4, 12, 1);
            due("change(12, 4105)", again.change(12, 4105), true);
            due("the first call behind a change", again.down(12, 4, 77, norm), want);
        }
    }

    private static void theOneOfLeastDegree() {
        sentence(18, "LEAST POLYNOMIAL over d: of those with elements of the FIELD d before the powers of x, 1 before "
                + "the highest, the one of the least degree that a makes 0 (the elements RAISED).");
        FieldTower t = new FieldTower();
        for (int n = 1; n <= 12; n++) {
            int last = (1 << n) - 1;
            int[] elements = {0, 1, last, 1 << (n - 1), last / 3, last / 7, last / 9};
            for (int d = 1; d <= n; d++) {
                for (int a : elements) {
                    if (n % d == 0) {
                        leastOf(t, n, d, a);
                    }
                }
            }
        }
        due("of 0 over 1, before x to the 0", t.least(12, 1, 0, 0), 0);
        due("over itself, before x to the 0", t.least(12, 12, 4095, 0), 4095);
    }

    private static void leastOf(FieldTower t, int n, int d, int a) {
        int degree = t.least(n, d, a, NONE);
        int sum = 0;
        for (int i = 0; i <= degree; i++) {
            sum ^= times(t, n, t.raise(d, n, t.least(n, d, a, i)), power(t, n, a, i));
        }
        String of = " of " + a + " in " + n + " over " + d;
        due("its value" + of, sum, 0);
        due("before the highest" + of, t.least(n, d, a, degree), 1);
        due("beyond the highest" + of, t.least(n, d, a, degree + 1), NONE);
        // Over d it has as many roots as a has unlike conjugates by 2 to the d.
        int[] all = conjugates(t, n, a);
        int unlike = 1;
        while (unlike < n / d && all[d * unlike] != a) {
            unlike++;
        }
        due("degree" + of, degree, unlike);
    }

    private static void leastOrNot() {
        sentence(18, "LEAST POLYNOMIAL of an element of the FIELD n over d: its degree (i NONE), the element of the FIELD d "
                + "before x to the i; -2: d does not divide n (i NONE or more); NONE: no such ones.");
        FieldTower t = new FieldTower();
        int[] all = {NONE, 0, 1, 2, 11, 12, 13, GREATEST};
        int[] below = {-2, -3, LOWEST};
        for (int n = 1; n <= 12; n++) {
            for (int d = 1; d <= 12; d++) {
                for (int i : all) {
                    due("least(" + n + ", " + d + ", 1, " + i + ") is -2", t.least(n, d, 1, i) == -2, n % d != 0);
                    due("least(" + n + ", " + d + ", " + i + ") of one too great", t.least(n, d, 1 << n, i), NONE);
                }
                for (int i : below) {
                    due("least(" + n + ", " + d + ", 1, " + i + ")", t.least(n, d, 1, i), NONE);
                }
            }
            for (int d : NO_FIELDS) {
                due("least(" + n + ", " + d + ", 1, -1)", t.least(n, d, 1, NONE), NONE);
                due("least(" + d + ", " + n + ", 1, 0)", t.least(d, n, 1, 0), NONE);
            }
            due("of 1 in " + n + ", x to the 1", t.least(n, 1, 1, 1), 1);
            due("of 1 in " + n + ", x to the 2", t.least(n, 1, 1, 2), NONE);
        }
        for (int i = 0; i <= 3; i++) {
            t.raise(4, 12, 1);
            int want = t.least(12, 4, 77, i);
            due("the first call of an object", new FieldTower().least(12, 4, 77, i), want);
            FieldTower again = changed(12, 4179);
            again.raise(4, 12, 1);
            due("change(12, 4105)", again.change(12, 4105), true);
            due("the first call behind a change", again.least(12, 4, 77, i), want);
        }
        noSuchElement("degree over 1", (n, a) -> t.least(n, 1, a, NONE));
        noSuchElement("over 1 before x to the 0", (n, a) -> t.least(n, 1, a, 0));
    }

    // ---- what solves squares, roots

    private static void equations() {
        howManySolve();
        solveOrNot();
        howManyRoots();
        rootsOrNot();
    }

    private static void howManySolve() {
        sentence(19, "What is squared and b times itself more is c, in the FIELD n: "
                + "how many such elements (what 0), the least (1; -2: none).");
        FieldTower t = new FieldTower();
        for (int n = 1; n <= 6; n++) {
            for (int b = 0; b < 1 << n; b++) {
                for (int c = 0; c < 1 << n; c++) {
                    int many = 0;
                    int least = -2;
                    for (int y = (1 << n) - 1; y >= 0; y--) {
                        if ((times(t, n, y, y) ^ times(t, n, b, y)) == c) {
                            many++;
                            least = y;
                        }
                    }
                    due("solve(" + n + ", " + b + ", " + c + ", 0)", t.solve(n, b, c, 0), many);
                    due("solve(" + n + ", " + b + ", " + c + ", 1)", t.solve(n, b, c, 1), least);
                }
            }
        }
        due("b 4095, c 0, how many", t.solve(12, 4095, 0, 0), 2);
        due("b 4095, c 0, the least", t.solve(12, 4095, 0, 1), 0);
        due("b 0, c 4095, how many", t.solve(12, 0, 4095, 0), 1);
        due("b 0, c 0, the least", t.solve(12, 0, 0, 1), 0);
    }

    private static void solveOrNot() {
        sentence(19, "the least (1; -2: none). NONE: no such ones.");
        FieldTower t = new FieldTower();
        for (int what = 0; what <= 1; what++) {
            int asked = what;
            noSuchElement("b, what " + what, (n, b) -> t.solve(n, b, 0, asked));
            noSuchElement("c, what " + what, (n, c) -> t.solve(n, 0, c, asked));
        }
        int[] none = {LOWEST, -2, -1, 2, 3, GREATEST};
        for (int what : none) {
            due("solve(2, 1, 0, " + what + ")", t.solve(2, 1, 0, what), NONE);
            due("solve(2, 1, 2, " + what + ")", t.solve(2, 1, 2, what), NONE);
        }
    }

    private static void howManyRoots() {
        sentence(25, "Elements of the FIELD n of which the k-th power (k 1 .. 9999) is a: "
                + "how many (what 0), the least (1; -2: none). NONE: no such ones.");
        FieldTower t = new FieldTower();
        int[] powers = {1, 2, 3, 5, 7, 9, 15, 31, 33, 63, 64, 126, 4095, 4096, 9998, 9999};
        for (int n = 1; n <= 6; n++) {
            for (int k : powers) {
                int[] many = new int[1 << n];
                int[] least = new int[1 << n];
                Arrays.fill(least, -2);
                for (int y = (1 << n) - 1; y >= 0; y--) {
                    int a = power(t, n, y, k);
                    many[a]++;
                    least[a] = y;
                }
                for (int a = 0; a < 1 << n; a++) {
                    due("roots(" + n + ", " + a + ", " + k + ", 0)", t.roots(n, a, k, 0), many[a]);
                    due("roots(" + n + ", " + a + ", " + k + ", 1)", t.roots(n, a, k, 1), least[a]);
                }
            }
        }
        due("all of them", t.roots(12, 1, 4095, 0), 4095);
        due("the least of all", t.roots(12, 1, 4095, 1), 1);
        due("k 9999 in 12", t.roots(12, 1, 9999, 0), 9);
        due("of 0 in 12", t.roots(12, 0, 9999, 0), 1);
        due("of 0 in 12, the least", t.roots(12, 0, 9999, 1), 0);
        due("k 1 in 12", t.roots(12, 4095, 1, 1), 4095);
    }

    private static void rootsOrNot() {
        sentence(25, "(k 1 .. 9999)");
        FieldTower t = new FieldTower();
        int[] none = {LOWEST, -9999, -1, 0, 10000, 10001, GREATEST};
        for (int what = 0; what <= 1; what++) {
            int asked = what;
            for (int k : none) {
                due("roots(12, 0, " + k + ", " + what + ")", t.roots(12, 0, k, what), NONE);
                due("roots(12, 1, " + k + ", " + what + ")", t.roots(12, 1, k, what), NONE);
            }
            noSuchElement("k 1, what " + what, (n, a) -> t.roots(n, a, 1, asked));
            noSuchElement("k 9999, what " + what, (n, a) -> t.roots(n, a, 9999, asked));
        }
        int[] others = {LOWEST, -2, -1, 2, 3, GREATEST};
        for (int what : others) {
            due("roots(4, 1, 3, " + what + ")", t.roots(4, 1, 3, what), NONE);
            due("roots(4, 2, 3, " + what + ")", t.roots(4, 2, 3, what), NONE);
            due("roots(4, 0, 3, " + what + ")", t.roots(4, 0, 3, what), NONE);
        }
    }

    // ---- factors, periods

    private static void factors() {
        eachAsOftenAsItIsThere();
        factorsOrNot();
        leastThatDivides();
        periodOrNot();
    }

    private static void eachAsOftenAsItIsThere() {
        sentence(21, "FACTORS of a POLYNOMIAL (of degree 1 at least): those that are not SPLIT and of which it is the product, "
                + "each as often as it is there, the least ahead.");
        FieldTower t = new FieldTower();
        for (int p = 2; p < 8192; p++) {
            int many = t.factor(p, NONE);
            int before = 2;
            int product = 1;
            for (int i = 0; i < many; i++) {
                int factor = t.factor(p, i);
                due("factor " + i + " of " + p + " is SPLIT", factor < 2 || SPLIT[factor], false);
                due("factor " + i + " of " + p + " is in order", factor >= before, true);
                before = factor;
                product = (int) product(product, factor);
            }
            due("the product of the factors of " + p, product, p);
        }
        due("12 times x", t.factor(4096, NONE), 12);
        due("the last x", t.factor(4096, 11), 2);
        // x + 1 to the 12 is x + 1 to the 8 times x + 1 to the 4.
        due("12 times x + 1", t.factor((int) product(257, 17), NONE), 12);
        due("the last x + 1", t.factor((int) product(257, 17), 11), 3);
    }

    private static void factorsOrNot() {
        sentence(21, "FACTORS of a POLYNOMIAL (2 .. 8191): how many (i NONE), the i-th; NONE: no such ones.");
        FieldTower t = new FieldTower();
        int[] none = {LOWEST, -2, -1, 0, 1, 8192, 8193, GREATEST};
        int[] indices = {NONE, 0, 1, 12};
        for (int p : none) {
            for (int i : indices) {
                due("factor(" + p + ", " + i + ")", t.factor(p, i), NONE);
            }
        }
        int[][] rows = {{2, 1}, {3, 1}, {4, 2}, {8191, 1}, {4096, 12}, {8190, t.factor(8190, NONE)}};
        for (int[] row : rows) {
            due("factor(" + row[0] + ", -1)", t.factor(row[0], NONE), row[1]);
            due("the last of " + row[0] + " is none", t.factor(row[0], row[1] - 1) == NONE, false);
            int[] others = {row[1], row[1] + 1, -2, LOWEST, GREATEST};
            for (int i : others) {
                due("factor(" + row[0] + ", " + i + ")", t.factor(row[0], i), NONE);
            }
        }
    }

    private static void leastThatDivides() {
        sentence(22, "PERIOD of one that has no factor x: the least k above 0 by which it divides x to the k less 1.");
        FieldTower t = new FieldTower();
        for (int p = 3; p < 8192; p += 2) {
            int k = 1;
            int at = remainder(2, p);
            while (at != 1) {
                at = remainder(2L * at, p);
                k++;
            }
            due("period(" + p + ")", t.period(p), k);
        }
        due("period(3)", t.period(3), 1);
        due("period(4179), the greatest", t.period(4179), 4095);
    }

    private static void periodOrNot() {
        sentence(22, "PERIOD of a POLYNOMIAL (2 .. 8191); -2: x is a factor; NONE: no such one.");
        FieldTower t = new FieldTower();
        for (int p = 2; p < 8192; p += 2) {
            due("period(" + p + ")", t.period(p), -2);
        }
        int[] none = {LOWEST, -3, -2, -1, 0, 1, 8192, 8193, GREATEST};
        for (int p : none) {
            due("period(" + p + ")", t.period(p), NONE);
        }
    }

    // ---- cosets, codes

    private static void cosetsAndCodes() {
        byDoubling();
        cosetOrNot();
        allUnlike();
        codeOrNot();
    }

    private static void byDoubling() {
        sentence(23, "COSET of k by n (0 .. 2 to the n less 2): what comes of k by doubling, "
                + "less 2 to the n less 1 if it is not below that.");
        FieldTower t = new FieldTower();
        for (int n = 1; n <= 12; n++) {
            int round = (1 << n) - 1;
            for (int k = 0; k < round; k++) {
                int least = k;
                int many = 1;
                for (int at = 2 * k % round; at != k; at = 2 * at % round) {
                    least = Math.min(least, at);
                    many++;
                }
                due("coset(" + n + ", " + k + ", 0)", t.coset(n, k, 0), least);
                due("coset(" + n + ", " + k + ", 1)", t.coset(n, k, 1), many);
            }
        }
    }

    private static void cosetOrNot() {
        sentence(23, "COSET of k by n: what 0 the least of it, 1 how many; NONE: no such ones.");
        FieldTower t = new FieldTower();
        int[] others = {LOWEST, -2, -1, 2, 3, GREATEST};
        for (int n = 1; n <= 12; n++) {
            int last = (1 << n) - 2;
            int[] none = {LOWEST, -1, last + 1, last + 2, GREATEST};
            for (int what = 0; what <= 1; what++) {
                for (int k : none) {
                    due("coset(" + n + ", " + k + ", " + what + ")", t.coset(n, k, what), NONE);
                }
                due("the last of " + n + " is none", t.coset(n, last, what) == NONE, false);
            }
            for (int what : others) {
                due("coset(" + n + ", 0, " + what + ")", t.coset(n, 0, what), NONE);
            }
        }
        for (int n : NO_FIELDS) {
            due("coset(" + n + ", 0, 0)", t.coset(n, 0, 0), NONE);
            due("coset(" + n + ", 1, 1)", t.coset(n, 1, 1), NONE);
        }
    }

    private static void allUnlike() {
        sentence(24, "CODE by n and t: the product of all unlike LEAST POLYNOMIALS over 1 "
                + "of the powers 1 .. t of the least PRIMITIVE element of the FIELD n.");
        for (int n = 2; n <= 12; n++) {
            FieldTower t = new FieldTower();
            for (int round = 0; round < 2; round++) {
                int primitive = leastPrimitive(t, n);
                List<Integer> parts = new ArrayList<>();
                long product = 1;
                for (int k = 1; k <= 5; k++) {
                    int part = 2;
                    while (SPLIT[part] || evaluate(t, n, part, power(t, n, primitive, k)) != 0) {
                        part++;
                    }
                    if (!parts.contains(part)) {
                        parts.add(part);
                        product = longProduct(product, part);
                    }
                    due("code(" + n + ", " + k + ")", t.code(n, k), product);
                }
                t.change(n, t.next(t.modulus(n)));
            }
        }
    }

    private static long longProduct(long a, int b) {
        long sum = 0;
        for (int k = 0; k < 13; k++) {
            sum ^= (b >> k & 1) == 1 ? a << k : 0;
        }
        return sum;
    }

    private static void codeOrNot() {
        sentence(24, "CODE by n (2 .. 12), t (1 .. 5): the POLYNOMIAL as bits; NONE: no such ones.");
        FieldTower t = new FieldTower();
        int[] none = {LOWEST, -1, 0, 6, 7, GREATEST};
        for (int n = 2; n <= 12; n++) {
            for (int k : none) {
                due("code(" + n + ", " + k + ")", t.code(n, k), NONE);
            }
        }
        for (int k = 1; k <= 5; k++) {
            due("code(1, " + k + ")", t.code(1, k), NONE);
            for (int n : NO_FIELDS) {
                due("code(" + n + ", " + k + ")", t.code(n, k), NONE);
            }
        }
        due("more than 32 bits", t.code(12, 5) >> 32 != 0, true);
    }

    // ---- fields

    private static void fields() {
        ofTheField();
        noneForOtherFields();
    }

    private static void ofTheField() {
        sentence(26, "Of the FIELD n: what 0 the least PRIMITIVE element, 1 how many, 2 the least NORMAL one, 3 how many, "
                + "4 how many of DEGREE n, 5 FIELDS d that divide n (bit d less 1).");
        for (int n = 1; n <= 12; n++) {
            FieldTower t = new FieldTower();
            for (int round = 0; round < 2; round++) {
                int primitives = 0;
                int normals = 0;
                int ofDegree = 0;
                int divisors = 0;
                for (int a = 1; a < 1 << n; a++) {
                    normals += n < 9 && isNormal(t, n, a) ? 1 : 0;
                }
                for (int a = 0; a < 1 << n; a++) {
                    ofDegree += degree(t, n, a) == n ? 1 : 0;
                }
                for (int k = 0; k < (1 << n) - 1; k++) {
                    primitives += BigInteger.valueOf(k).gcd(BigInteger.valueOf((1 << n) - 1)).intValue() == 1 ? 1 : 0;
                }
                for (int d = 1; d <= n; d++) {
                    divisors |= n % d == 0 ? 1 << (d - 1) : 0;
                }
                due("field(" + n + ", 0)", t.field(n, 0), leastPrimitive(t, n));
                due("field(" + n + ", 1)", t.field(n, 1), primitives);
                due("field(" + n + ", 2)", t.field(n, 2), leastNormal(t, n));
                due("field(" + n + ", 3)", t.field(n, 3), n < 9 ? normals : t.field(n, 3));
                due("field(" + n + ", 4)", t.field(n, 4), ofDegree);
                due("field(" + n + ", 5)", t.field(n, 5), divisors);
                t.change(n, t.next(t.modulus(n)));
            }
        }
        FieldTower t = new FieldTower();
        int[] normals = {189, 480, 1023, 1536};
        for (int n = 9; n <= 12; n++) {
            int many = 0;
            for (int a = 1; a < 1 << n; a++) {
                many += t.element(n, a, 8);
            }
            due("field(" + n + ", 3)", t.field(n, 3), many);
            due("field(" + n + ", 3)", t.field(n, 3), normals[n - 9]);
        }
    }

    private static void noneForOtherFields() {
        sentence(26, "NONE for others.");
        FieldTower t = new FieldTower();
        int[] others = {LOWEST, -2, -1, 6, 7, GREATEST};
        for (int n = 1; n <= 12; n++) {
            for (int what : others) {
                due("field(" + n + ", " + what + ")", t.field(n, what), NONE);
            }
        }
        for (int n : NO_FIELDS) {
            for (int what = 0; what <= 5; what++) {
                due("field(" + n + ", " + what + ")", t.field(n, what), NONE);
            }
        }
    }

    // ---- elements written out

    private static void writtenOut() {
        theHighestAhead();
        writtenOrNot();
    }

    private static void theHighestAhead() {
        sentence(27, "WRITTEN: powers of a letter, the highest ahead, \"+\" between: x^k, x for k 1, 1 for k 0; of 0: 0.");
        FieldTower t = new FieldTower();
        for (int n = 1; n <= 12; n++) {
            int last = (1 << n) - 1;
            int[] elements = {0, 1, last, last & 2, last & 3, last & 4, 1 << (n - 1), last & 0xaaa, last & 0x555};
            for (int a : elements) {
                written(t, n, a, 'x');
            }
        }
        for (char letter = 'a'; letter <= 'z'; letter++) {
            written(t, 12, 4095, letter);
        }
    }

    private static void written(FieldTower t, int n, int a, char letter) {
        List<String> powers = new ArrayList<>();
        for (int k = 11; k >= 0; k--) {
            if ((a >> k & 1) == 1) {
                powers.add(k == 0 ? "1" : k == 1 ? String.valueOf(letter) : letter + "^" + k);
            }
        }
        String want = a == 0 ? "0" : String.join("+", powers);
        due("bytes of " + want, t.written(n, a, letter - 'a', NONE), want.length());
        for (int i = 0; i < want.length(); i++) {
            due("byte " + i + " of " + want, t.written(n, a, letter - 'a', i), want.charAt(i));
        }
        due("behind " + want, t.written(n, a, letter - 'a', want.length()), NONE);
    }

    private static void writtenOrNot() {
        sentence(27, "An element of the FIELD n, WRITTEN by a letter (0 .. 25: a .. z): "
                + "how many bytes (i NONE), byte i; NONE: no such ones.");
        FieldTower t = new FieldTower();
        int[] letters = {LOWEST, -1, 26, 27, 97, GREATEST};
        int[] indices = {LOWEST, -2, 45, 46, 63, 64, 65, GREATEST};
        for (int letter : letters) {
            due("length, letter " + letter, t.written(12, 4095, letter, NONE), NONE);
            due("byte 0, letter " + letter, t.written(12, 1, letter, 0), NONE);
        }
        due("the longest", t.written(12, 4095, 0, NONE), 45);
        due("its last byte", t.written(12, 4095, 0, 44), '1');
        for (int i : indices) {
            due("byte " + i, t.written(12, 4095, 0, i), NONE);
        }
        due("byte 1 of 0, behind a longer one", t.written(12, 0, 0, 1), NONE);
        noSuchElement("length", (n, a) -> t.written(n, a, 0, NONE));
        noSuchElement("byte 0", (n, a) -> t.written(n, a, 25, 0));
    }

    // ---- both

    private static void noneAheadOfMinusTwo() {
        String words = "Where NONE and -2 could both be told, it is NONE, unless another order is told.";
        FieldTower t = new FieldTower();
        sentence(12, words);
        due("both(3, 8, 0, 2)", t.both(3, 8, 0, 2), NONE);
        due("both(13, 0, 0, 2)", t.both(13, 0, 0, 2), NONE);
        sentence(13, words);
        due("power(13, 0, -1)", t.power(13, 0, -1), NONE);
        sentence(14, words);
        due("element(0, 0, 0)", t.element(0, 0, 0), NONE);
        due("element(3, 0, 11)", t.element(3, 0, 11), NONE);
        sentence(15, words);
        due("raise(2, 3, 4)", t.raise(2, 3, 4), NONE);
        due("raise(5, 13, 1)", t.raise(5, 13, 1), NONE);
        sentence(16, words);
        due("lower(4, 3, 16)", t.lower(4, 3, 16), NONE);
        due("lower(4, 13, 1)", t.lower(4, 13, 1), NONE);
        sentence(17, words);
        due("down(4, 3, 16, true)", t.down(4, 3, 16, true), NONE);
        due("down(4, 13, 1, false)", t.down(4, 13, 1, false), NONE);
        sentence(18, words);
        due("least(4, 3, 16, 0)", t.least(4, 3, 16, 0), NONE);
        due("least(4, 3, 1, -2)", t.least(4, 3, 1, -2), NONE);
        due("least(4, 13, 1, -1)", t.least(4, 13, 1, NONE), NONE);
        sentence(19, words);
        due("solve(2, 4, 2, 1)", t.solve(2, 4, 2, 1), NONE);
        due("solve(2, 1, 2, 2)", t.solve(2, 1, 2, 2), NONE);
        sentence(22, words);
        due("period(8194)", t.period(8194), NONE);
        due("period(0)", t.period(0), NONE);
        sentence(25, words);
        due("roots(4, 2, 10002, 1)", t.roots(4, 2, 10002, 1), NONE);
        due("roots(4, 18, 3, 1)", t.roots(4, 18, 3, 1), NONE);
    }
}
