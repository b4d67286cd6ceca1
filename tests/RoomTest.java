import java.lang.management.ManagementFactory;
import java.nio.charset.StandardCharsets;

/** What an object makes in 512 calls: the room is for all of them, and nothing is taken away from it. */
public final class RoomTest {
    private static final long BYTES = 200_000;

    public static void main(String[] args) {
        com.sun.management.ThreadMXBean bean = (com.sun.management.ThreadMXBean) ManagementFactory.getThreadMXBean();
        long id = Thread.currentThread().getId();
        byte[] text = ("modulus 12 1000001010011; let a 4 x/(x+1); let b 6 x^77; let c 12 a*b + x^9999/(a+x); "
                + "let d 12 (((((((c))))))); ").getBytes(StandardCharsets.ISO_8859_1);
        int[] words = new int[(text.length + 19) / 20 * 5];
        for (int i = 0; i < words.length * 4; i++) {
            words[i / 4] = words[i / 4] << 8 | (i < text.length ? text[i] : 32);
        }
        use(words);
        long before = bean.getThreadAllocatedBytes(id);
        int calls = use(words);
        long made = bean.getThreadAllocatedBytes(id) - before;
        System.out.println(calls + " calls made " + made + " bytes of objects");
        if (made > BYTES) {
            System.out.println("that is more than " + BYTES);
            System.exit(1);
        }
    }

    private static int use(int[] words) {
        FieldTower t = new FieldTower();
        int calls = 0;
        while (calls < 460) {
            for (int i = 0; i < words.length; i += 5) {
                t.feed(words[i], words[i + 1], words[i + 2], words[i + 3], words[i + 4]);
                calls++;
            }
            if (t.read() != 0) {
                System.out.println("the text has a fault at " + t.place());
                System.exit(1);
            }
            t.change(12, 4105);
            t.hold(0);
            t.change(6, 97);
            t.restore(0);
            t.undo();
            for (int n = 1; n <= 12; n++) {
                t.element(n, 1, 3);
                t.element(n, t.field(n, 2), 10);
                calls += 3;
            }
            t.code(12, 5);
            t.roots(12, 1, 4095, 1);
            t.written(12, 4095, 0, 44);
            t.least(12, 2, 2, 3);
            t.lower(12, 6, 1);
            t.factor(8191, 0);
            t.let(3, 3);
            calls += 13;
        }
        return calls;
    }
}
