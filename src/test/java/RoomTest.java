import com.sun.management.ThreadMXBean;
import java.lang.management.ManagementFactory;

/** A run has some 600,000 objects and 7.3 million elements: calls have to make next to none. */
public final class RoomTest {
    private static final long MOST_BYTES_OF_OBJECT = 60_000;
    private static final long MOST_BYTES_OF_CALLS = 60_000;

    private static final ThreadMXBean threads = (ThreadMXBean) ManagementFactory.getThreadMXBean();
    private static final Checks checks = new Checks("RoomTest");

    public static void main(String[] args) {
        // Once ahead, so that no class is loaded while bytes are counted.
        calls(new PrimeCertificates());
        long start = bytes();
        PrimeCertificates x = new PrimeCertificates();
        long made = bytes() - start;
        checks.due("an object takes " + made + " bytes, too many", made > MOST_BYTES_OF_OBJECT, false);
        start = bytes();
        calls(x);
        made = bytes() - start;
        checks.due("calls take " + made + " bytes, too many", made > MOST_BYTES_OF_CALLS, false);
        checks.finish();
    }

    private static long bytes() {
        return threads.getThreadAllocatedBytes(Thread.currentThread().getId());
    }

    private static void calls(PrimeCertificates x) {
        for (int i = 0; i < 8; i++) {
            x.put(0, i, -1 - i);
            x.put(1, i, i < 4 ? 7 * i + 3 : 0);
        }
        for (int i = 0; i < 30; i++) {
            x.divide(0, 1, 2, 3);
            x.power(2, 0, 3, 4);
            x.common(0, 2, 5);
            x.multiply(1, 3, 6);
            x.add(1, 3, 6);
            x.subtract(0, 3, 6);
            x.put(7, 0, 65537 + 2 * i);
            x.prove(7);
            x.prove(0);
            x.check();
            x.tell(0, 5);
            x.say(1);
            x.check();
            x.cut(x.length() - 1);
        }
    }
}
