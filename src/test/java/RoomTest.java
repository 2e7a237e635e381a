import java.lang.management.ManagementFactory;
import java.math.BigInteger;

/** All calls of a run live in one room, so calls make nothing new but for a longer tape. */
public final class RoomTest {
    private static final long NEW_OBJECT_BYTES = 64 * 1024;
    private static final long TAPE_BYTES = 2 * 65536 + 1024;

    private static final com.sun.management.ThreadMXBean THREADS =
        (com.sun.management.ThreadMXBean) ManagementFactory.getThreadMXBean();

    public static void main(String[] args) {
        round(new PrimeKeys());
        // Everything is measured before anything is told, because telling makes objects too.
        long start = made();
        PrimeKeys x = new PrimeKeys();
        long built = made();
        Hand.key(x, BigInteger.TEN);
        long before = made();
        for (int i = 0; i < 40; i++) {
            round(x);
        }
        long after = made();
        PrimeKeys y = new PrimeKeys();
        Hand.key(y, BigInteger.TEN);
        y.sign(0);
        long empty = made();
        for (int i = 0; i < 500; i++) {
            y.back(-1, 0);
        }
        long grown = made();
        Check.isTrue("a new object takes " + (built - start) + " bytes", built - start <= NEW_OBJECT_BYTES);
        Check.isTrue("calls make " + (after - before) + " bytes", after - before <= 1024);
        Check.isTrue("a tape makes " + (grown - empty) + " bytes", grown - empty <= TAPE_BYTES);
        Check.end();
    }

    private static long made() {
        return THREADS.getCurrentThreadAllocatedBytes();
    }

    private static void round(PrimeKeys x) {
        if (x.count(1) == 0) {
            Hand.key(x, BigInteger.TWO);
        }
        x.end(0);
        x.feed(1, 2, 3, 4, 5);
        x.message();
        x.open(0);
        x.back(-1, 0);
        x.sign(0);
        x.back(-1, 0);
        x.verify();
        x.open(0);
        x.back(-1, 0);
        x.agree(0);
    }
}
