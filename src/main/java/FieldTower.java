/**
 * The fields of 2 to the n elements, n 1 .. 12, and how each lies in each greater one.
 * A polynomial of noughts and ones is an int: bit k stands before x to the k.
 */
public final class FieldTower {

    public static final int NONE = -1;

    // All that was told is there, but what is asked for is not.
    private static final int ABSENT = -2;

    private static final int HIGHEST = 12;
    private static final int LAST_POLYNOMIAL = 8191;
    private static final int TAPE_BYTES = 2000;
    private static final int FED_BYTES = 20;
    private static final int MOST_TOKENS = 400;
    private static final int MOST_NAMES = 8;
    private static final int MOST_OPEN = 8;
    private static final int MOST_LETTERS = 8;
    private static final int MOST_DIGITS = 13;
    private static final int GREATEST_POWER = 9999;
    private static final int MOST_CHANGES = 30;
    private static final int SLOTS = 3;
    private static final int GREATEST_CODE = 5;
    private static final int LETTERS = 26;
    private static final int WRITTEN_BYTES = 64;

    private static final int SYNTAX = 1;
    private static final int ROOM = 2;
    private static final int TWICE = 3;
    private static final int UNKNOWN_NAME = 4;
    private static final int WRONG = 5;
    private static final int STRANGE_FIELD = 6;
    private static final int ZERO = 7;

    // These three depend on n alone; place 0 is not used.
    private static final int[] LEAST_MODULI = {0, 2, 7, 11, 19, 37, 67, 131, 283, 515, 1033, 2053, 4105};
    private static final int[] WHOLE_POLYNOMIALS = {0, 2, 1, 2, 3, 6, 9, 18, 30, 56, 99, 186, 335};
    private static final int[] NORMAL_ELEMENTS = {0, 1, 2, 3, 8, 15, 24, 49, 128, 189, 480, 1023, 1536};

    // Kinds of tokens.
    private static final int MODULUS_WORD = 1;
    private static final int LET_WORD = 2;
    private static final int X_WORD = 3;
    private static final int NAME = 4;
    private static final int ROW = 5;
    private static final int SEMICOLON = 6;
    private static final int PLUS = 7;
    private static final int TIMES = 8;
    private static final int OVER = 9;
    private static final int HAT = 10;
    private static final int OPEN = 11;
    private static final int CLOSE = 12;
    private static final int NO_TOKEN = 13;
    private static final int TEXT_END = 14;

    // What a token stands for in its line, which is what the grammar waits for there.
    private static final int LINE = 1;
    private static final int MODULUS_FIELD = 2;
    private static final int MODULUS_ROW = 3;
    private static final int MODULUS_END = 4;
    private static final int LET_NAME = 5;
    private static final int LET_FIELD = 6;
    private static final int ATOM = 7;
    private static final int AFTER_ATOM = 8;
    private static final int EXPONENT = 9;
    private static final int AFTER_POWER = 10;
    private static final int REFUSED = 0;

    // Words as Tape packs them: five bits a letter, a being 1.
    private static final long X_LETTERS = 24L;
    private static final long LET_LETTERS = (12L << 10) + (5L << 5) + 20L;
    private static final long MODULUS_LETTERS =
            (13L << 30) + (15L << 25) + (4L << 20) + (21L << 15) + (12L << 10) + (21L << 5) + 19L;

    private final Tape tape;
    private final Tower tower;
    private final Worker worker;
    private final History history;
    private final int[] nameValues;
    private final int[] formerModuli;
    private final int[][] slotModuli;
    private final boolean[] slotHolds;
    private final int[] writtenBytes;
    private Script script;
    private Script spareScript;
    private int faultPlace;

    public FieldTower() {
        tape = new Tape();
        tower = new Tower();
        worker = new Worker();
        history = new History();
        nameValues = new int[MOST_NAMES];
        formerModuli = new int[HIGHEST + 1];
        slotModuli = new int[SLOTS][HIGHEST + 1];
        slotHolds = new boolean[SLOTS];
        writtenBytes = new int[WRITTEN_BYTES];
        script = new Script();
        spareScript = new Script();
        faultPlace = NONE;
    }

    // ---- the tape and the text

    public int feed(int a, int b, int c, int d, int e) {
        if (tape.length + FED_BYTES > TAPE_BYTES) {
            return NONE;
        }
        tape.append(a);
        tape.append(b);
        tape.append(c);
        tape.append(d);
        tape.append(e);
        return tape.length;
    }

    public int back(int n) {
        if (n < 0 || n > tape.length) {
            return NONE;
        }
        tape.length -= n;
        return tape.length;
    }

    public int read() {
        int fault = spareScript.parse(tape);
        if (fault == 0) {
            fault = spareScript.check();
        }
        tape.length = 0;
        faultPlace = spareScript.faultPlace;
        if (fault != 0) {
            return fault;
        }
        tower.copyModuli(formerModuli);
        tower.takeModuli(spareScript.moduli);
        if (!worker.workOut(spareScript, tower)) {
            tower.takeModuli(formerModuli);
            faultPlace = worker.zeroPlace;
            return ZERO;
        }
        Script former = script;
        script = spareScript;
        spareScript = former;
        keepNameValues();
        history.length = 0;
        emptySlots();
        return 0;
    }

    public int place() {
        return faultPlace;
    }

    // ---- moduli changed by hand

    public boolean change(int n, int polynomial) {
        if (!isField(n) || !Polynomials.isModulus(polynomial, n)) {
            return false;
        }
        int former = tower.fields[n].modulus;
        if (former == polynomial) {
            return false;
        }
        tower.setModulus(n, polynomial);
        if (!worker.workOut(script, tower)) {
            tower.setModulus(n, former);
            return false;
        }
        keepNameValues();
        history.push(n, former);
        return true;
    }

    public boolean undo() {
        if (history.length <= 0) {
            return false;
        }
        tower.setModulus(history.lastField(), history.lastModulus());
        history.length--;
        // Nothing is divided by 0 here: all was worked out with these moduli before.
        worker.workOut(script, tower);
        keepNameValues();
        return true;
    }

    public boolean hold(int slot) {
        if (slot < 0 || slot >= SLOTS) {
            return false;
        }
        tower.copyModuli(slotModuli[slot]);
        slotHolds[slot] = true;
        return true;
    }

    public boolean restore(int slot) {
        if (slot < 0 || slot >= SLOTS || !slotHolds[slot]) {
            return false;
        }
        // A text that is read empties the slots, so that the moduli always belong to this one.
        tower.takeModuli(slotModuli[slot]);
        worker.workOut(script, tower);
        keepNameValues();
        history.length = 0;
        return true;
    }

    private void keepNameValues() {
        System.arraycopy(worker.results, 0, nameValues, 0, MOST_NAMES);
    }

    private void emptySlots() {
        for (int slot = 0; slot < SLOTS; slot++) {
            slotHolds[slot] = false;
        }
    }

    // ---- polynomials

    public int modulus(int n) {
        return isField(n) ? tower.fields[n].modulus : NONE;
    }

    public int whole(int polynomial) {
        if (!hasDegree(polynomial)) {
            return NONE;
        }
        return Polynomials.isWhole(polynomial) ? 1 : 0;
    }

    public int next(int polynomial) {
        if (polynomial < 0 || polynomial >= LAST_POLYNOMIAL) {
            return NONE;
        }
        for (int p = Math.max(2, polynomial + 1); p <= LAST_POLYNOMIAL; p++) {
            if (Polynomials.isWhole(p)) {
                return p;
            }
        }
        return NONE;
    }

    public int wholes(int n) {
        return isField(n) ? WHOLE_POLYNOMIALS[n] : NONE;
    }

    public int value(int n, int polynomial, int a) {
        if (!isElement(n, a) || polynomial < 0 || polynomial > LAST_POLYNOMIAL) {
            return NONE;
        }
        return tower.fields[n].valueAt(polynomial, a);
    }

    public int factor(int polynomial, int i) {
        if (!hasDegree(polynomial) || i < NONE) {
            return NONE;
        }
        return Polynomials.factorAt(polynomial, i);
    }

    public int period(int polynomial) {
        if (!hasDegree(polynomial)) {
            return NONE;
        }
        return (polynomial & 1) == 0 ? ABSENT : Polynomials.periodOf(polynomial);
    }

    public long code(int n, int t) {
        if (!isField(n) || n < 2 || t < 1 || t > GREATEST_CODE) {
            return NONE;
        }
        return tower.codePolynomial(n, t);
    }

    // ---- elements

    public int both(int n, int a, int b, int what) {
        if (!isElement(n, a) || !isElement(n, b)) {
            return NONE;
        }
        Field field = tower.fields[n];
        switch (what) {
            case 0:
                return a ^ b;
            case 1:
                return field.times(a, b);
            case 2:
                return b == 0 ? ABSENT : field.times(a, field.inverse(b));
            default:
                return NONE;
        }
    }

    public int power(int n, int a, int k) {
        if (!isElement(n, a)) {
            return NONE;
        }
        Field field = tower.fields[n];
        if (k >= 0) {
            return field.toThe(a, k);
        }
        return a == 0 ? ABSENT : field.toThe(field.inverse(a), -(long) k);
    }

    public int element(int n, int a, int what) {
        if (!isElement(n, a)) {
            return NONE;
        }
        switch (what) {
            case 0:
                return a == 0 ? ABSENT : tower.fields[n].inverse(a);
            case 1:
                return tower.fields[n].squared(a, n - 1);
            case 2:
                return a == 0 ? ABSENT : tower.cycles[n].orderOf(a);
            case 3:
                return a == 0 ? ABSENT : tower.cycles[n].logarithmOf(a);
            case 4:
            case 6:
                // The conjugates come round after as many steps as the degree says.
                return tower.fields[n].degreeOf(a);
            case 5:
                return tower.fields[n].leastConjugate(a);
            case 7:
                return a != 0 && tower.cycles[n].isPrimitive(a) ? 1 : 0;
            case 8:
                return tower.spaces[n].isNormal(a) ? 1 : 0;
            case 9:
                return tower.spaces[n].coordinatesOf(a);
            case 10:
                return tower.spaces[n].isNormal(a) ? tower.spaces[n].dualOf(a) : ABSENT;
            default:
                return NONE;
        }
    }

    public int solve(int n, int b, int c, int what) {
        if (!isElement(n, b) || !isElement(n, c) || what < 0 || what > 1) {
            return NONE;
        }
        int solution = tower.spaces[n].solveSquare(b, c);
        if (solution == NONE) {
            return what == 0 ? 0 : ABSENT;
        }
        if (what == 0) {
            return b == 0 ? 1 : 2;
        }
        return Math.min(solution, solution ^ b);
    }

    public int roots(int n, int a, int k, int what) {
        if (!isElement(n, a) || k < 1 || k > GREATEST_POWER || what < 0 || what > 1) {
            return NONE;
        }
        if (a == 0) {
            return what == 0 ? 1 : 0;
        }
        int many = tower.cycles[n].rootCount(a, k);
        if (what == 0) {
            return many;
        }
        return many == 0 ? ABSENT : tower.cycles[n].leastRoot(a, k);
    }

    public int coset(int n, int k, int what) {
        if (!isField(n) || k < 0 || k > (1 << n) - 2 || what < 0 || what > 1) {
            return NONE;
        }
        int round = (1 << n) - 1;
        int least = k;
        int many = 1;
        int at = doubled(k, round);
        for (int step = 1; step < n && at != k; step++) {
            least = Math.min(least, at);
            many++;
            at = doubled(at, round);
        }
        return what == 0 ? least : many;
    }

    private static int doubled(int k, int round) {
        return 2 * k < round ? 2 * k : 2 * k - round;
    }

    // ---- fields in one another

    public int raise(int d, int n, int a) {
        if (!isField(n) || !isElement(d, a)) {
            return NONE;
        }
        if (!divides(d, n)) {
            return ABSENT;
        }
        tower.prepare(n);
        return tower.raised(d, n, a);
    }

    public int lower(int n, int d, int a) {
        if (!isField(d) || !isElement(n, a)) {
            return NONE;
        }
        if (!divides(d, n)) {
            return ABSENT;
        }
        tower.prepare(n);
        return tower.lowered(n, d, a);
    }

    public int down(int n, int d, int a, boolean norm) {
        if (!isField(d) || !isElement(n, a)) {
            return NONE;
        }
        if (!divides(d, n)) {
            return ABSENT;
        }
        tower.prepare(n);
        return tower.lowered(n, d, norm ? tower.fields[n].normTo(d, a) : tower.fields[n].traceTo(d, a));
    }

    public int least(int n, int d, int a, int i) {
        if (!isField(d) || !isElement(n, a) || i < NONE) {
            return NONE;
        }
        if (!divides(d, n)) {
            return ABSENT;
        }
        int degree = tower.fields[n].degreeOver(d, a);
        if (i == NONE) {
            return degree;
        }
        if (i > degree) {
            return NONE;
        }
        tower.prepare(n);
        return tower.lowered(n, d, tower.fields[n].leastCoefficient(d, a, i));
    }

    public int field(int n, int what) {
        if (!isField(n)) {
            return NONE;
        }
        switch (what) {
            case 0:
                return tower.cycles[n].leastPrimitive();
            case 1:
                return tower.cycles[n].primitiveCount();
            case 2:
                return tower.spaces[n].leastNormal();
            case 3:
                return NORMAL_ELEMENTS[n];
            case 4:
                // Each polynomial of degree n that is not split has n of them as its roots.
                return n * WHOLE_POLYNOMIALS[n];
            case 5:
                return divisorBits(n);
            default:
                return NONE;
        }
    }

    private static int divisorBits(int n) {
        int bits = 0;
        for (int d = 1; d <= n; d++) {
            if (divides(d, n)) {
                bits |= 1 << (d - 1);
            }
        }
        return bits;
    }

    // ---- what is told of the state

    public int written(int n, int a, int letter, int i) {
        if (!isElement(n, a) || letter < 0 || letter >= LETTERS || i < NONE) {
            return NONE;
        }
        int length = writeOut(a, 'a' + letter);
        if (i == NONE) {
            return length;
        }
        return i < length ? writtenBytes[i] : NONE;
    }

    private int writeOut(int a, int letter) {
        int length = 0;
        for (int k = HIGHEST - 1; k >= 0; k--) {
            if ((a >> k & 1) != 0) {
                length = writePower(k, letter, length);
            }
        }
        return length > 0 ? length : writeByte('0', 0);
    }

    private int writePower(int k, int letter, int length) {
        int end = length > 0 ? writeByte('+', length) : length;
        if (k == 0) {
            return writeByte('1', end);
        }
        end = writeByte(letter, end);
        if (k == 1) {
            return end;
        }
        end = writeByte('^', end);
        if (k >= 10) {
            end = writeByte('1', end);
        }
        return writeByte('0' + k % 10, end);
    }

    private int writeByte(int sign, int end) {
        if (end < 0 || end >= WRITTEN_BYTES) {
            return end;
        }
        writtenBytes[end] = sign;
        return end + 1;
    }

    public int let(int i, int what) {
        if (i < 0 || i >= script.names || i >= MOST_NAMES) {
            return NONE;
        }
        int n = script.nameFields[i];
        int a = nameValues[i];
        if (!isElement(n, a)) {
            return NONE;
        }
        switch (what) {
            case 0:
                return n;
            case 1:
                return a;
            case 2:
                return tower.fields[n].degreeOf(a);
            case 3:
                tower.prepare(n);
                return tower.lowered(n, tower.fields[n].degreeOf(a), a);
            default:
                return NONE;
        }
    }

    public int count(int what) {
        switch (what) {
            case 0:
                return script.names;
            case 1:
                return tape.length;
            case 2:
                return history.length;
            case 3:
                return heldSlots();
            case 4:
                return tower.otherModuli();
            default:
                return NONE;
        }
    }

    private int heldSlots() {
        int many = 0;
        for (int slot = 0; slot < SLOTS; slot++) {
            if (slotHolds[slot]) {
                many++;
            }
        }
        return many;
    }

    // ---- what there is

    private static boolean isField(int n) {
        return n >= 1 && n <= HIGHEST;
    }

    private static boolean isElement(int n, int a) {
        return isField(n) && a >= 0 && a < 1 << n;
    }

    private static boolean hasDegree(int polynomial) {
        return polynomial >= 2 && polynomial <= LAST_POLYNOMIAL;
    }

    private static boolean divides(int d, int n) {
        return d > 0 && n % d == 0;
    }

    private static int commonDivisor(int a, int b) {
        int great = a;
        int small = b;
        // Two steps halve the greater one at least, so that 64 are enough for any int.
        for (int step = 0; step < 64 && small > 0; step++) {
            int rest = great % small;
            great = small;
            small = rest;
        }
        return great;
    }

    /** Polynomials of noughts and ones up to degree 12, in no field. */
    private static final class Polynomials {

        static int degreeOf(int polynomial) {
            for (int k = HIGHEST; k >= 0; k--) {
                if ((polynomial >> k & 1) != 0) {
                    return k;
                }
            }
            return NONE;
        }

        static int remainder(int polynomial, int by) {
            int degree = degreeOf(by);
            int rest = polynomial;
            for (int k = HIGHEST; k >= degree && degree >= 0; k--) {
                if ((rest >> k & 1) != 0) {
                    rest ^= by << (k - degree);
                }
            }
            return rest;
        }

        static int quotient(int polynomial, int by) {
            int degree = degreeOf(by);
            int rest = polynomial;
            int result = 0;
            for (int k = HIGHEST; k >= degree && degree >= 0; k--) {
                if ((rest >> k & 1) != 0) {
                    rest ^= by << (k - degree);
                    result |= 1 << (k - degree);
                }
            }
            return result;
        }

        static boolean isWhole(int polynomial) {
            // If it is split, one part has at most half its degree.
            int end = 1 << (degreeOf(polynomial) / 2 + 1);
            for (int part = 2; part < end; part++) {
                if (remainder(polynomial, part) == 0) {
                    return false;
                }
            }
            return true;
        }

        static boolean isModulus(int polynomial, int n) {
            return polynomial >= 1 << n && polynomial < 2 << n && isWhole(polynomial);
        }

        /** The i-th factor; how many there are for i NONE. */
        static int factorAt(int polynomial, int i) {
            int rest = polynomial;
            int found = 0;
            int part = 2;
            // What is left has no factor below part, so that a part that divides it is not split.
            for (int step = 0; step <= LAST_POLYNOMIAL && 2 * degreeOf(part) <= degreeOf(rest); step++) {
                if (remainder(rest, part) != 0) {
                    part++;
                    continue;
                }
                if (found == i) {
                    return part;
                }
                found++;
                rest = quotient(rest, part);
            }
            if (i == NONE) {
                return found + 1;
            }
            return found == i ? rest : NONE;
        }

        /** Of one whose lowest bit is 1: the powers of x go round without a tail. */
        static int periodOf(int polynomial) {
            int top = 1 << degreeOf(polynomial);
            int at = 1;
            for (int k = 1; k <= LAST_POLYNOMIAL; k++) {
                at <<= 1;
                if ((at & top) != 0) {
                    at ^= polynomial;
                }
                if (at == 1) {
                    return k;
                }
            }
            return NONE;
        }

        static long product(long a, int b) {
            long sum = 0;
            for (int k = 0; k <= HIGHEST; k++) {
                if ((b >> k & 1) != 0) {
                    sum ^= a << k;
                }
            }
            return sum;
        }
    }

    /** The field n: its sums are those of the bits, its products are here. */
    private static final class Field {
        final int n;
        final int size;
        int modulus;
        private final int[] coefficients;

        Field(int n) {
            this.n = n;
            size = 1 << n;
            modulus = LEAST_MODULI[n];
            coefficients = new int[HIGHEST + 1];
        }

        int times(int a, int b) {
            int product = 0;
            int shifted = a;
            for (int k = 0; k < n && b >> k != 0; k++) {
                if ((b >> k & 1) != 0) {
                    product ^= shifted;
                }
                shifted <<= 1;
                if ((shifted & size) != 0) {
                    shifted ^= modulus;
                }
            }
            return product;
        }

        int toThe(int a, long k) {
            int product = 1;
            int square = a;
            for (int bit = 0; bit < 63 && k >> bit != 0; bit++) {
                if ((k >> bit & 1) != 0) {
                    product = times(product, square);
                }
                square = times(square, square);
            }
            return product;
        }

        int inverse(int a) {
            return toThe(a, size - 2);
        }

        int x() {
            return Polynomials.remainder(2, modulus);
        }

        /** By Horner's way: what a polynomial comes to at a. */
        int valueAt(int polynomial, int a) {
            int sum = 0;
            for (int k = HIGHEST; k >= 0; k--) {
                // Noughts ahead of the first one need no product.
                if (polynomial >> k != 0) {
                    sum = times(sum, a) ^ (polynomial >> k & 1);
                }
            }
            return sum;
        }

        /** Squared so many times. */
        int squared(int a, int many) {
            int at = a;
            for (int step = 0; step < many; step++) {
                at = times(at, at);
            }
            return at;
        }

        int degreeOf(int a) {
            return degreeOver(1, a);
        }

        int leastConjugate(int a) {
            int least = a;
            int at = a;
            for (int step = 1; step < n; step++) {
                at = times(at, at);
                least = Math.min(least, at);
            }
            return least;
        }

        int traceTo(int d, int a) {
            int sum = 0;
            int at = a;
            for (int done = 0; done < n && d > 0; done += d) {
                sum ^= at;
                at = squared(at, d);
            }
            return sum;
        }

        int normTo(int d, int a) {
            int product = 1;
            int at = a;
            for (int done = 0; done < n && d > 0; done += d) {
                product = times(product, at);
                at = squared(at, d);
            }
            return product;
        }

        /** How many unlike conjugates a has that the field d does not tell from it. */
        int degreeOver(int d, int a) {
            int at = squared(a, d);
            int degree = 1;
            for (int step = 1; step < n && at != a; step++) {
                at = squared(at, d);
                degree++;
            }
            return degree;
        }

        /** Before x to the i in the least polynomial of a over d, as an element of this field. */
        int leastCoefficient(int d, int a, int i) {
            int degree = expandLeast(d, a);
            return i >= 0 && i <= degree ? coefficients[i] : 0;
        }

        /** The least polynomial of a over the field 1, as bits. */
        int leastPolynomial(int a) {
            int degree = expandLeast(1, a);
            int bits = 0;
            for (int k = 0; k <= degree; k++) {
                bits |= (coefficients[k] & 1) << k;
            }
            return bits;
        }

        /** Fills the coefficients with those of the product of all x + conjugate of a over d; its degree. */
        private int expandLeast(int d, int a) {
            int degree = Math.min(HIGHEST, degreeOver(d, a));
            int at = a;
            coefficients[0] = 1;
            for (int done = 0; done < degree; done++) {
                coefficients[done + 1] = coefficients[done];
                for (int k = done; k > 0; k--) {
                    coefficients[k] = coefficients[k - 1] ^ times(coefficients[k], at);
                }
                coefficients[0] = times(coefficients[0], at);
                at = squared(at, d);
            }
            return degree;
        }
    }

    /** The elements above 0 of a field, as powers of one of them. */
    private static final class Cycle {
        private final Field field;
        private final int length;
        private int primitive;
        private boolean listed;
        private int[] logarithms;

        Cycle(Field field) {
            this.field = field;
            length = field.size - 1;
        }

        void forget() {
            primitive = 0;
            listed = false;
        }

        int orderOf(int a) {
            int order = length;
            int rest = length;
            for (int prime = 2; prime <= rest; prime++) {
                for (int step = 0; step < HIGHEST && rest % prime == 0; step++) {
                    rest /= prime;
                    if (field.toThe(a, order / prime) == 1) {
                        order /= prime;
                    }
                }
            }
            return order;
        }

        boolean isPrimitive(int a) {
            return orderOf(a) == length;
        }

        int leastPrimitive() {
            for (int a = 1; a <= length && primitive == 0; a++) {
                if (orderOf(a) == length) {
                    primitive = a;
                }
            }
            return primitive;
        }

        int primitiveCount() {
            int many = length;
            int rest = length;
            for (int prime = 2; prime <= rest; prime++) {
                if (rest % prime == 0) {
                    many -= many / prime;
                }
                for (int step = 0; step < HIGHEST && rest % prime == 0; step++) {
                    rest /= prime;
                }
            }
            return many;
        }

        int logarithmOf(int a) {
            if (!listed) {
                listLogarithms();
            }
            return logarithms != null && a > 0 && a < logarithms.length ? logarithms[a] : NONE;
        }

        private void listLogarithms() {
            if (logarithms == null) {
                logarithms = new int[length + 1];
            }
            int step = leastPrimitive();
            int at = 1;
            for (int k = 0; k < length && at >= 0 && at < logarithms.length; k++) {
                logarithms[at] = k;
                at = field.times(at, step);
            }
            listed = true;
        }

        /** Of a above 0: the k-th powers are those whose logarithm the common divisor divides. */
        int rootCount(int a, int k) {
            int common = commonDivisor(k, length);
            return divides(common, logarithmOf(a)) ? common : 0;
        }

        /** Of an a that has a k-th root. */
        int leastRoot(int a, int k) {
            int common = commonDivisor(k, length);
            if (common < 1) {
                return NONE;
            }
            int root = field.toThe(leastPrimitive(), rootLogarithm(logarithmOf(a), k));
            int unit = field.toThe(leastPrimitive(), length / common);
            int least = root;
            for (int i = 1; i < common; i++) {
                root = field.times(root, unit);
                least = Math.min(least, root);
            }
            return least;
        }

        private int rootLogarithm(int logarithm, int k) {
            int step = length > 0 ? k % length : 0;
            int at = 0;
            for (int e = 0; e < length; e++) {
                if (at == logarithm) {
                    return e;
                }
                at += step;
                if (at >= length) {
                    at -= length;
                }
            }
            return 0;
        }
    }

    /** Rows of bits, and which sums of them make another row. */
    private static final class Span {
        private final int[] rows;
        private final int[] sources;
        private int added;

        Span() {
            rows = new int[HIGHEST];
            sources = new int[HIGHEST];
        }

        void clear() {
            for (int k = 0; k < HIGHEST; k++) {
                rows[k] = 0;
                sources[k] = 0;
            }
            added = 0;
        }

        /** False if the row is a sum of those that came before it. */
        boolean add(int row) {
            int rest = row;
            int source = 1 << added;
            added++;
            for (int k = HIGHEST - 1; k >= 0; k--) {
                if ((rest >> k & 1) == 0) {
                    continue;
                }
                if (rows[k] == 0) {
                    rows[k] = rest;
                    sources[k] = source;
                    return true;
                }
                rest ^= rows[k];
                source ^= sources[k];
            }
            return false;
        }

        /** The rows that sum up to this one, bit i for the i-th that came; NONE if none do. */
        int express(int row) {
            int rest = row;
            int source = 0;
            for (int k = HIGHEST - 1; k >= 0; k--) {
                if ((rest >> k & 1) == 0) {
                    continue;
                }
                if (rows[k] == 0) {
                    return NONE;
                }
                rest ^= rows[k];
                source ^= sources[k];
            }
            return source;
        }
    }

    /** A field as rows of bits: what is linear in it. */
    private static final class Space {
        private final Field field;
        private final Span span;
        private int traceBits;
        private int normal;

        Space(Field field, Span span) {
            this.field = field;
            this.span = span;
        }

        void forget() {
            traceBits = 0;
            normal = 0;
        }

        private int traceOf(int a) {
            if (traceBits == 0) {
                for (int k = 0; k < field.n; k++) {
                    traceBits |= (field.traceTo(1, 1 << k) & 1) << k;
                }
            }
            return Integer.bitCount(traceBits & a) & 1;
        }

        boolean isNormal(int a) {
            // The sum of all conjugates is the trace: where it is 0 there is no need to look further.
            return traceOf(a) != 0 && spanConjugates(a);
        }

        private boolean spanConjugates(int a) {
            span.clear();
            int at = a;
            boolean apart = true;
            for (int i = 0; i < field.n; i++) {
                apart &= span.add(at);
                at = field.times(at, at);
            }
            return apart;
        }

        int leastNormal() {
            for (int a = 1; a < field.size && normal == 0; a++) {
                if (isNormal(a)) {
                    normal = a;
                }
            }
            return normal;
        }

        int coordinatesOf(int a) {
            spanConjugates(leastNormal());
            return span.express(a);
        }

        /** Of a normal b: c is found by its bits, each of which gives a row of traces. */
        int dualOf(int b) {
            span.clear();
            for (int k = 0; k < field.n; k++) {
                span.add(tracesWith(1 << k, b));
            }
            return span.express(1);
        }

        private int tracesWith(int c, int b) {
            int traces = 0;
            int at = b;
            for (int i = 0; i < field.n; i++) {
                traces |= traceOf(field.times(c, at)) << i;
                at = field.times(at, at);
            }
            return traces;
        }

        /** One y for which y y + b y is c; NONE if there is none. The left side is linear in y. */
        int solveSquare(int b, int c) {
            span.clear();
            for (int k = 0; k < field.n; k++) {
                span.add(field.times(1 << k, 1 << k ^ b));
            }
            return span.express(c);
        }
    }

    /** All fields, and what x of each becomes in those above it. */
    private static final class Tower {
        final Field[] fields;
        final Cycle[] cycles;
        final Space[] spaces;
        private final Span span;
        private final int[][] images;
        private final boolean[] settled;
        private final int[] codeParts;

        Tower() {
            fields = new Field[HIGHEST + 1];
            cycles = new Cycle[HIGHEST + 1];
            spaces = new Space[HIGHEST + 1];
            span = new Span();
            images = new int[HIGHEST + 1][HIGHEST + 1];
            settled = new boolean[HIGHEST + 1];
            codeParts = new int[GREATEST_CODE];
            for (int n = 1; n <= HIGHEST; n++) {
                fields[n] = new Field(n);
                cycles[n] = new Cycle(fields[n]);
                spaces[n] = new Space(fields[n], span);
            }
        }

        void setModulus(int n, int polynomial) {
            if (!isField(n)) {
                return;
            }
            fields[n].modulus = polynomial;
            cycles[n].forget();
            spaces[n].forget();
            for (int above = n; above <= HIGHEST; above += n) {
                settled[above] = false;
            }
        }

        void takeModuli(int[] moduli) {
            for (int n = 1; n <= HIGHEST && n < moduli.length; n++) {
                if (fields[n].modulus != moduli[n]) {
                    setModulus(n, moduli[n]);
                }
            }
        }

        void copyModuli(int[] moduli) {
            for (int n = 1; n <= HIGHEST && n < moduli.length; n++) {
                moduli[n] = fields[n].modulus;
            }
        }

        int otherModuli() {
            int bits = 0;
            for (int n = 1; n <= HIGHEST; n++) {
                if (fields[n].modulus != LEAST_MODULI[n]) {
                    bits |= 1 << (n - 1);
                }
            }
            return bits;
        }

        /** To be called before raised and lowered. The smaller fields come first: the greater ones ask for them. */
        void prepare(int n) {
            for (int m = 1; m <= n && m <= HIGHEST; m++) {
                if (divides(m, n) && !settled[m]) {
                    settle(m);
                }
            }
        }

        private void settle(int n) {
            images[n][n] = fields[n].x();
            for (int d = n - 1; d >= 1; d--) {
                if (!divides(d, n)) {
                    continue;
                }
                int between = greatestBetween(d, n);
                if (between != NONE) {
                    images[n][d] = fields[n].valueAt(images[between][d], images[n][between]);
                } else if (d == 1) {
                    // x or x + 1: made 0 by its own last bit.
                    images[n][1] = fields[1].modulus & 1;
                } else {
                    images[n][d] = leastImage(d, n, cycles[n].leastPrimitive());
                }
            }
            settled[n] = true;
        }

        private static int greatestBetween(int d, int n) {
            for (int e = n - 1; e > d; e--) {
                if (divides(e, n) && divides(d, e)) {
                    return e;
                }
            }
            return NONE;
        }

        private int leastImage(int d, int n, int primitive) {
            int many = fields[d].size - 1;
            if (many < 1) {
                return 0;
            }
            // Only powers of this one can be roots: those are the elements above 0 of the smaller field.
            int step = fields[n].toThe(primitive, (fields[n].size - 1) / many);
            int least = fields[n].size;
            int at = 1;
            for (int i = 0; i < many; i++) {
                if (at < least && fields[n].valueAt(fields[d].modulus, at) == 0 && agrees(d, n, at)) {
                    least = at;
                }
                at = fields[n].times(at, step);
            }
            return least;
        }

        /** Both ways up from a common smaller field agree if they agree for x there. */
        private boolean agrees(int d, int n, int image) {
            for (int e = d + 1; e < n; e++) {
                int common = commonDivisor(d, e);
                if (divides(e, n) && common > 1 && fields[n].valueAt(images[d][common], image)
                        != fields[n].valueAt(images[e][common], images[n][e])) {
                    return false;
                }
            }
            return true;
        }

        int raised(int d, int n, int a) {
            return fields[n].valueAt(a, images[n][d]);
        }

        int lowered(int n, int d, int a) {
            span.clear();
            int power = 1;
            for (int k = 0; k < d; k++) {
                span.add(power);
                power = fields[n].times(power, images[n][d]);
            }
            int element = span.express(a);
            return element == NONE ? ABSENT : element;
        }

        long codePolynomial(int n, int t) {
            int primitive = cycles[n].leastPrimitive();
            long product = 1;
            int at = 1;
            for (int i = 0; i < t && i < GREATEST_CODE; i++) {
                at = fields[n].times(at, primitive);
                codeParts[i] = fields[n].leastPolynomial(at);
                if (isNewPart(i)) {
                    product = Polynomials.product(product, codeParts[i]);
                }
            }
            return product;
        }

        private boolean isNewPart(int i) {
            for (int k = 0; k < i; k++) {
                if (codeParts[k] == codeParts[i]) {
                    return false;
                }
            }
            return true;
        }
    }

    /** The last changes: which field's, and what its modulus was; the oldest goes when there is no room. */
    private static final class History {
        private final int[] changedFields;
        private final int[] formerModuli;
        int length;

        History() {
            changedFields = new int[MOST_CHANGES];
            formerModuli = new int[MOST_CHANGES];
        }

        void push(int n, int modulus) {
            if (length >= MOST_CHANGES) {
                System.arraycopy(changedFields, 1, changedFields, 0, MOST_CHANGES - 1);
                System.arraycopy(formerModuli, 1, formerModuli, 0, MOST_CHANGES - 1);
                length = MOST_CHANGES - 1;
            }
            changedFields[length] = n;
            formerModuli[length] = modulus;
            length++;
        }

        int lastField() {
            return length > 0 ? changedFields[length - 1] : NONE;
        }

        int lastModulus() {
            return length > 0 ? formerModuli[length - 1] : NONE;
        }
    }

    /** The bytes that were fed, and one token of them after another. */
    private static final class Tape {
        private final byte[] bytes;
        int length;
        private int at;
        int kind;
        int start;
        long worth;

        Tape() {
            bytes = new byte[TAPE_BYTES];
        }

        void append(int word) {
            for (int shift = 24; shift >= 0 && length < TAPE_BYTES; shift -= 8) {
                bytes[length] = (byte) (word >> shift);
                length++;
            }
        }

        void rewind() {
            at = 0;
        }

        /** Leaves the next token's kind, its first byte's place and what it is worth. */
        void scanToken() {
            skipBlanks();
            start = at;
            worth = 0;
            if (at >= length) {
                kind = TEXT_END;
            } else if (isLetter(at)) {
                scanWord();
            } else if (isDigit(at)) {
                scanRow();
            } else {
                kind = signKind(bytes[at]);
                at++;
            }
        }

        private void skipBlanks() {
            while (at < length && isBlank(bytes[at])) {
                at++;
            }
        }

        private static boolean isBlank(int sign) {
            return sign == 9 || sign == 10 || sign == 13 || sign == 32;
        }

        private boolean isLetter(int place) {
            return place < length && bytes[place] >= 'a' && bytes[place] <= 'z';
        }

        private boolean isDigit(int place) {
            return place < length && bytes[place] >= '0' && bytes[place] <= '9';
        }

        private void scanWord() {
            while (at < length && isLetter(at)) {
                worth = (worth << 5) + (bytes[at] - 'a' + 1);
                at++;
            }
            if (at - start > MOST_LETTERS) {
                kind = NO_TOKEN;
            } else if (worth == MODULUS_LETTERS) {
                kind = MODULUS_WORD;
            } else if (worth == LET_LETTERS) {
                kind = LET_WORD;
            } else if (worth == X_LETTERS) {
                kind = X_WORD;
            } else {
                kind = NAME;
            }
        }

        private void scanRow() {
            while (at < length && isDigit(at)) {
                worth = worth * 10 + (bytes[at] - '0');
                at++;
            }
            kind = at - start > MOST_DIGITS ? NO_TOKEN : ROW;
        }

        private static int signKind(int sign) {
            switch (sign) {
                case ';':
                    return SEMICOLON;
                case '+':
                    return PLUS;
                case '*':
                    return TIMES;
                case '/':
                    return OVER;
                case '^':
                    return HAT;
                case '(':
                    return OPEN;
                case ')':
                    return CLOSE;
                default:
                    return NO_TOKEN;
            }
        }
    }

    /** Which token may follow which. */
    private static final class Grammar {

        /** What is waited for behind a token of this kind; REFUSED if no text goes on with it. */
        static int after(int role, int kind, int open) {
            switch (role) {
                case LINE:
                    return kind == MODULUS_WORD ? MODULUS_FIELD : kind == LET_WORD ? LET_NAME : REFUSED;
                case MODULUS_FIELD:
                    return kind == ROW ? MODULUS_ROW : REFUSED;
                case MODULUS_ROW:
                    return kind == ROW ? MODULUS_END : REFUSED;
                case MODULUS_END:
                    return kind == SEMICOLON ? LINE : REFUSED;
                case LET_NAME:
                    return kind == NAME ? LET_FIELD : REFUSED;
                case LET_FIELD:
                    return kind == ROW ? ATOM : REFUSED;
                case ATOM:
                    return kind == OPEN ? ATOM : isPlainAtom(kind) ? AFTER_ATOM : REFUSED;
                case AFTER_ATOM:
                    return kind == HAT ? EXPONENT : afterPower(kind, open);
                case EXPONENT:
                    return kind == ROW ? AFTER_POWER : REFUSED;
                case AFTER_POWER:
                    return afterPower(kind, open);
                default:
                    return REFUSED;
            }
        }

        private static boolean isPlainAtom(int kind) {
            return kind == X_WORD || kind == ROW || kind == NAME;
        }

        private static int afterPower(int kind, int open) {
            switch (kind) {
                case PLUS:
                case TIMES:
                case OVER:
                    return ATOM;
                case CLOSE:
                    return open > 0 ? AFTER_ATOM : REFUSED;
                case SEMICOLON:
                    return open == 0 ? LINE : REFUSED;
                default:
                    return REFUSED;
            }
        }
    }

    /** A text as tokens, the moduli that it tells and its names. */
    private static final class Script {
        private int size;
        private final int[] kinds;
        private final int[] roles;
        private final int[] places;
        private final long[] worths;
        final int[] moduli;
        int names;
        private final long[] nameLetters;
        final int[] nameFields;
        private final int[] nameStarts;
        private final boolean[] nameMixes;
        private int lineField;
        int faultPlace;

        Script() {
            kinds = new int[MOST_TOKENS];
            roles = new int[MOST_TOKENS];
            places = new int[MOST_TOKENS];
            worths = new long[MOST_TOKENS];
            moduli = new int[HIGHEST + 1];
            nameLetters = new long[MOST_NAMES];
            nameFields = new int[MOST_NAMES];
            nameStarts = new int[MOST_NAMES];
            nameMixes = new boolean[MOST_NAMES];
            faultPlace = NONE;
        }

        /** Takes the tape's tokens: 0, SYNTAX or ROOM. */
        int parse(Tape tape) {
            int role = LINE;
            int open = 0;
            int lets = 0;
            size = 0;
            tape.rewind();
            for (int i = 0; i <= TAPE_BYTES; i++) {
                tape.scanToken();
                int kind = tape.kind;
                faultPlace = tape.start;
                if (kind == TEXT_END && role == LINE) {
                    faultPlace = NONE;
                    return 0;
                }
                int following = Grammar.after(role, kind, open);
                if (following == REFUSED) {
                    return SYNTAX;
                }
                lets += kind == LET_WORD ? 1 : 0;
                open += kind == OPEN ? 1 : kind == CLOSE ? -1 : 0;
                if (size >= MOST_TOKENS || lets > MOST_NAMES || open > MOST_OPEN) {
                    return ROOM;
                }
                keep(tape, role);
                role = following;
            }
            return SYNTAX;
        }

        private void keep(Tape tape, int role) {
            kinds[size] = tape.kind;
            roles[size] = role;
            places[size] = tape.start;
            worths[size] = tape.worth;
            size++;
        }

        /** After parse: 0, TWICE, UNKNOWN_NAME, WRONG or STRANGE_FIELD. Puts names and rows into the form that Worker takes. */
        int check() {
            names = 0;
            lineField = 0;
            System.arraycopy(LEAST_MODULI, 0, moduli, 0, HIGHEST + 1);
            for (int i = 0; i < size; i++) {
                int fault = checkToken(i);
                if (fault != 0) {
                    faultPlace = places[i];
                    return fault;
                }
            }
            return 0;
        }

        private int checkToken(int i) {
            switch (roles[i]) {
                case MODULUS_FIELD:
                case LET_FIELD:
                    return checkField(i);
                case MODULUS_ROW:
                    return checkModulus(i);
                case LET_NAME:
                    return checkNewName(i);
                case ATOM:
                    return checkAtom(i);
                case EXPONENT:
                    return worths[i] > GREATEST_POWER ? WRONG : 0;
                case AFTER_ATOM:
                case AFTER_POWER:
                    // Only behind its own line can a name be used.
                    names += kinds[i] == SEMICOLON ? 1 : 0;
                    return 0;
                default:
                    return 0;
            }
        }

        private int checkField(int i) {
            if (worths[i] < 1 || worths[i] > HIGHEST) {
                return WRONG;
            }
            lineField = (int) worths[i];
            if (roles[i] == LET_FIELD && names < MOST_NAMES) {
                nameFields[names] = lineField;
                nameStarts[names] = i + 1;
                nameMixes[names] = false;
            }
            return 0;
        }

        private int checkModulus(int i) {
            int polynomial = bitsOf(worths[i]);
            if (!isField(lineField) || polynomial == NONE || !Polynomials.isModulus(polynomial, lineField)) {
                return WRONG;
            }
            moduli[lineField] = polynomial;
            return 0;
        }

        private int checkNewName(int i) {
            if (indexOf(worths[i]) != NONE) {
                return TWICE;
            }
            if (names < MOST_NAMES) {
                nameLetters[names] = worths[i];
            }
            return 0;
        }

        private int checkAtom(int i) {
            if (kinds[i] == ROW) {
                worths[i] = bitsOf(worths[i]);
                return worths[i] == NONE ? WRONG : 0;
            }
            if (kinds[i] != NAME) {
                return 0;
            }
            int index = indexOf(worths[i]);
            if (index == NONE) {
                return UNKNOWN_NAME;
            }
            if (!divides(nameFields[index], lineField)) {
                return STRANGE_FIELD;
            }
            if (nameFields[index] != lineField && names < MOST_NAMES) {
                nameMixes[names] = true;
            }
            worths[i] = index;
            return 0;
        }

        private int indexOf(long letters) {
            for (int i = 0; i < names && i < MOST_NAMES; i++) {
                if (nameLetters[i] == letters) {
                    return i;
                }
            }
            return NONE;
        }

        /** The polynomial whose noughts and ones are these decimal digits; NONE if another digit is among them. */
        private static int bitsOf(long row) {
            int bits = 0;
            long rest = row;
            for (int k = 0; k < MOST_DIGITS; k++) {
                int digit = (int) (rest % 10);
                if (digit > 1) {
                    return NONE;
                }
                bits |= digit << k;
                rest /= 10;
            }
            return bits;
        }
    }

    /** Works out the names of a script that has been checked. */
    private static final class Worker {
        final int[] results;
        int zeroPlace;
        // For each open parenthesis: the terms so far, the term at hand and the sign that waits for its right side.
        private final int[] sums;
        private final int[] products;
        private final int[] signs;
        private final int[] signPlaces;
        private int latest;

        Worker() {
            results = new int[MOST_NAMES];
            sums = new int[MOST_OPEN + 1];
            products = new int[MOST_OPEN + 1];
            signs = new int[MOST_OPEN + 1];
            signPlaces = new int[MOST_OPEN + 1];
        }

        /** False if something is divided by 0, at zeroPlace. */
        boolean workOut(Script script, Tower tower) {
            zeroPlace = NONE;
            for (int name = 0; name < script.names && name < MOST_NAMES; name++) {
                if (script.nameMixes[name]) {
                    tower.prepare(script.nameFields[name]);
                }
                if (!workLine(script, tower, name)) {
                    return false;
                }
            }
            return true;
        }

        private boolean workLine(Script script, Tower tower, int name) {
            int n = script.nameFields[name];
            if (!isField(n)) {
                return true;
            }
            Field field = tower.fields[n];
            int open = 0;
            begin(0);
            for (int i = script.nameStarts[name]; i < script.size; i++) {
                int kind = script.kinds[i];
                if (kind == OPEN && open < MOST_OPEN) {
                    open++;
                    begin(open);
                } else if (script.roles[i] == ATOM) {
                    latest = atomAt(script, tower, n, i);
                } else if (script.roles[i] == EXPONENT) {
                    latest = field.toThe(latest, script.worths[i]);
                } else if (kind != HAT) {
                    if (!join(field, open)) {
                        return false;
                    }
                    if (kind == SEMICOLON) {
                        results[name] = sums[0] ^ products[0];
                        return true;
                    }
                    open = goOn(kind, open, script.places[i]);
                }
            }
            return true;
        }

        private void begin(int open) {
            sums[open] = 0;
            products[open] = 0;
            signs[open] = PLUS;
        }

        private int atomAt(Script script, Tower tower, int n, int i) {
            int worth = (int) script.worths[i];
            switch (script.kinds[i]) {
                case X_WORD:
                    return tower.fields[n].x();
                case ROW:
                    return Polynomials.remainder(worth, tower.fields[n].modulus);
                default:
                    break;
            }
            if (worth < 0 || worth >= MOST_NAMES) {
                return 0;
            }
            int d = script.nameFields[worth];
            return d == n ? results[worth] : tower.raised(d, n, results[worth]);
        }

        /** Puts what came last behind the sign that waits for it; false if that divides by 0. */
        private boolean join(Field field, int open) {
            if (signs[open] == TIMES) {
                products[open] = field.times(products[open], latest);
            } else if (signs[open] != OVER) {
                products[open] = latest;
            } else if (latest != 0) {
                products[open] = field.times(products[open], field.inverse(latest));
            } else {
                zeroPlace = signPlaces[open];
                return false;
            }
            return true;
        }

        /** Past a sign; how many parentheses are open then. */
        private int goOn(int kind, int open, int place) {
            if (kind == CLOSE) {
                latest = sums[open] ^ products[open];
                return Math.max(0, open - 1);
            }
            if (kind == PLUS) {
                sums[open] ^= products[open];
            }
            signs[open] = kind;
            signPlaces[open] = place;
            return open;
        }
    }
}
