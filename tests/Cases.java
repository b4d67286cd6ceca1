import java.nio.charset.StandardCharsets;
import java.util.ArrayList;
import java.util.List;
import java.util.TreeSet;

/** What the tests of promises share: answers compared with those that are due, and texts put on the tape. */
abstract class Cases {
    static final int NONE = -1;
    static final int LOWEST = Integer.MIN_VALUE;
    static final int GREATEST = Integer.MAX_VALUE;

    private static int wrong = 0;
    private static int promise = 0;
    private static String words = "";
    static final TreeSet<Integer> PROMISES = new TreeSet<>();
    static final List<String> QUOTES = new ArrayList<>();

    /** The cases that follow belong to this promise. */
    static void promise(int number) {
        sentence(number, "");
    }

    /** The cases that follow belong to these words of the document, by which this promise is kept. */
    static void sentence(int number, String quoted) {
        promise = number;
        words = quoted;
        PROMISES.add(number);
        QUOTES.add(quoted);
    }

    static void due(String call, long got, long want) {
        if (got != want) {
            wrong++;
            String where = words.isEmpty() ? "" : " \"" + words + "\"";
            System.out.println("promise " + promise + where + ": " + call + " answered " + got + ", due is " + want);
        }
    }

    static void due(String call, boolean got, boolean want) {
        due(call, got ? 1 : 0, want ? 1 : 0);
    }

    static void due(String call, String got, String want) {
        due(call + " [" + got + "], not [" + want + "]:", got.equals(want), true);
    }

    static void end(String kept) {
        System.out.println(wrong == 0 ? kept : wrong + " answers are not as due");
        if (wrong != 0) {
            System.exit(1);
        }
    }

    static void put(FieldTower t, String text) {
        byte[] bytes = text.getBytes(StandardCharsets.ISO_8859_1);
        int[] words = new int[5];
        int filler = (20 - bytes.length % 20) % 20;
        for (int i = 0; i < bytes.length + filler; i++) {
            words[i % 20 / 4] = words[i % 20 / 4] << 8 | (i < bytes.length ? bytes[i] & 255 : 32);
            if (i % 20 == 19) {
                t.feed(words[0], words[1], words[2], words[3], words[4]);
            }
        }
        t.back(filler);
    }

    static int read(FieldTower t, String text) {
        put(t, text);
        return t.read();
    }

    static FieldTower with(String text) {
        FieldTower t = new FieldTower();
        due("read of [" + text + "]", read(t, text), 0);
        return t;
    }

    /** What can be told of an object without changing it, but for the tape and the place of a fault. */
    static String stateOf(FieldTower t) {
        StringBuilder state = new StringBuilder();
        for (int n = 1; n <= 12; n++) {
            state.append(t.modulus(n)).append(' ');
        }
        state.append("| ").append(t.count(0)).append(' ').append(t.count(2)).append(' ').append(t.count(3));
        for (int i = 0; i < t.count(0); i++) {
            for (int what = 0; what < 4; what++) {
                state.append(what == 0 ? " | " : " ").append(t.let(i, what));
            }
        }
        return state.append(" | ").append(t.raise(4, 12, 2)).append(' ').append(t.field(8, 0)).toString();
    }

    /** Reads a text behind another one that has all that a text can leave as it is or replace. */
    static void faultOf(String text, int fault, int place) {
        FieldTower t = with("modulus 3 1101; let keep 3 x; let kept 12 keep + x^12;");
        t.hold(1);
        t.change(4, 25);
        t.change(12, 4179);
        String before = stateOf(t);
        due("read of [" + text + "]", read(t, text), fault);
        due("place of [" + text + "]", t.place(), place);
        due("bytes after [" + text + "]", t.count(1), 0);
        if (fault != 0) {
            due("after [" + text + "]", stateOf(t), before);
            due("undo() after [" + text + "]", t.undo(), true);
            due("modulus(12) after undo()", t.modulus(12), 4105);
            due("restore(1) after [" + text + "]", t.restore(1), true);
            due("modulus(4) after restore(1)", t.modulus(4), 19);
        } else {
            due("count(2) after [" + text + "]", t.count(2), 0);
            due("count(3) after [" + text + "]", t.count(3), 0);
            due("undo() after [" + text + "]", t.undo(), false);
            due("restore(1) after [" + text + "]", t.restore(1), false);
        }
    }

    /** What is left of a polynomial less multiples of another one. */
    static int remainder(long polynomial, int by) {
        long rest = polynomial;
        int degree = 31 - Integer.numberOfLeadingZeros(by);
        for (int k = 62; k >= degree; k--) {
            if ((rest >> k & 1) != 0) {
                rest ^= (long) by << (k - degree);
            }
        }
        return (int) rest;
    }

    static long product(int a, int b) {
        long sum = 0;
        for (int k = 0; k < 31; k++) {
            if ((b >> k & 1) != 0) {
                sum ^= (long) a << k;
            }
        }
        return sum;
    }

    static String repeat(String part, int times) {
        return part.repeat(times);
    }
}
