import java.math.BigInteger;

/** Promise 12: count. */
public final class Promise12CountTest {
    private static final BigInteger SECRET = BigInteger.valueOf(1999);
    private static final byte[] PUBLIC = Reference.publicKey(SECRET);

    public static void main(String[] args) {
        eachByItself();
        otherNumbers();
        refusalsCountNothing();
        Check.end();
    }

    private static void counts(String what, PrimeKeys x, int... due) {
        for (int i = 0; i < due.length; i++) {
            Check.same(what + ": count(" + i + ")", x.count(i), due[i]);
        }
    }

    private static void eachByItself() {
        PrimeKeys x = new PrimeKeys();
        Hand.key(x, SECRET);
        counts("a key", x, 0, 1, 0, 0, 0, 0, 0, 0, 0, 0);
        Hand.key(x, SECRET);
        counts("two keys", x, 0, 2, 0, 0, 0, 0, 0, 0, 0, 0);
        Hand.message(x, Hand.text("seventeen letters"));
        counts("a message", x, 0, 2, 17, 0, 0, 0, 0, 0, 0, 0);
        Hand.feed(x, new byte[23]);
        counts("a tape", x, 23, 2, 17, 0, 0, 0, 0, 0, 0, 0);
        x.open(1);
        counts("a result", x, 23, 2, 17, 65, 0, 0, 0, 0, 0, 0);
        int length = x.sign(0);
        x.sign(1);
        x.sign(1);
        counts("three signatures", x, 23, 2, 17, length, 3, 0, 0, 0, 0, 0);
        byte[] good = Hand.result(x);
        int[] times = {1, 2, 3, 4, 5};
        for (int i = 0; i < 5; i++) {
            for (int verdict = i; verdict < 5; verdict++) {
                Check.same("verdict", askFor(x, verdict, good), verdict);
            }
        }
        counts("verdicts", x, 0, 2, 17, length, 3, times[0], times[1], times[2], times[3], times[4]);
    }

    private static int askFor(PrimeKeys x, int verdict, byte[] good) {
        switch (verdict) {
            case 0:
                return Hand.verify(x, PUBLIC, good);
            case 1:
                return Hand.verify(x, PUBLIC, Hand.bytes("3000"));
            case 2:
                return Hand.verify(x, PUBLIC, Reference.der(BigInteger.ZERO, BigInteger.ZERO));
            case 3:
                return Hand.verify(x, new byte[65], good);
            default:
                return Hand.verify(x, Reference.publicKey(BigInteger.ONE), good);
        }
    }

    private static void otherNumbers() {
        PrimeKeys x = new PrimeKeys();
        int[] wrong = {-1, -2, 10, 11, 15, 256, Integer.MIN_VALUE, Integer.MAX_VALUE};
        for (int what : wrong) {
            Check.same("count(" + what + ")", x.count(what), -1);
        }
    }

    private static void refusalsCountNothing() {
        PrimeKeys x = new PrimeKeys();
        Hand.feed(x, new byte[32]);
        Check.refuses("key", x, IllegalArgumentException.class, x::key);
        Check.refuses("sign", x, java.util.NoSuchElementException.class, () -> x.sign(0));
        Check.refuses("verify", x, IllegalArgumentException.class, x::verify);
        counts("after refusals", x, 32, 0, 0, 0, 0, 0, 0, 0, 0, 0);
    }
}
