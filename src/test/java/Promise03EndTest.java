import java.math.BigInteger;

/** Promise 3: end. */
public final class Promise03EndTest {
    private static final BigInteger SECRET = BigInteger.valueOf(54321);

    public static void main(String[] args) {
        keepsTheFirst();
        takesItsEdges();
        refusesOthers();
        Check.end();
    }

    private static void keepsTheFirst() {
        PrimeKeys x = new PrimeKeys();
        Hand.key(x, SECRET);
        x.feed(0x01020304, 0x05060708, 0x090a0b0c, 0x0d0e0f10, 0x11121314);
        Check.same("end(7)", x.end(7), 7);
        Check.same("length after end(7)", x.count(0), 7);
        Check.same("feed after end(7)", x.feed(-1, 0, 0, 0, 0), 27);
        Check.same("end(11)", x.end(11), 11);
        Hand.tapeIs("tape after end", x, SECRET, Hand.bytes("01020304050607ffffffff"));
    }

    private static void takesItsEdges() {
        PrimeKeys x = new PrimeKeys();
        Check.same("end(0) of nothing", x.end(0), 0);
        x.feed(1, 2, 3, 4, 5);
        Check.same("end of the whole", x.end(20), 20);
        Check.same("length after it", x.count(0), 20);
        Check.same("end(0)", x.end(0), 0);
        Check.same("length after end(0)", x.count(0), 0);
    }

    private static void refusesOthers() {
        PrimeKeys x = new PrimeKeys();
        Hand.key(x, SECRET);
        Check.refuses("end(1) of nothing", x, IllegalArgumentException.class, () -> x.end(1));
        x.feed(1, 2, 3, 4, 5);
        int[] wrong = {-1, 21, Integer.MIN_VALUE, Integer.MAX_VALUE};
        for (int n : wrong) {
            Check.refuses("end(" + n + ") of 20", x, IllegalArgumentException.class, () -> x.end(n));
        }
        x.end(12);
        Check.refuses("end(13) of 12", x, IllegalArgumentException.class, () -> x.end(13));
        Hand.tapeIs("tape after refusals", x, SECRET, Hand.bytes("000000010000000200000003"));
    }
}
