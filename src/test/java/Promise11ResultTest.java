import java.math.BigInteger;

/** Promise 11: result. */
public final class Promise11ResultTest {
    private static final BigInteger SECRET = BigInteger.valueOf(2024);

    public static void main(String[] args) {
        bytesAreNotBelowZero();
        isTheLastOnesAlone();
        refusesOtherPlaces();
        Check.end();
    }

    private static void bytesAreNotBelowZero() {
        PrimeKeys x = new PrimeKeys();
        Hand.key(x, SECRET);
        x.open(0);
        byte[] due = Reference.publicKey(SECRET);
        boolean high = false;
        for (int i = 0; i < 65; i++) {
            Check.same("result(" + i + ")", x.result(i), due[i] & 255);
            high = high || due[i] < 0;
        }
        Check.isTrue("a byte above 127 was among them", high);
    }

    // A shorter result leaves nothing of the longer one before it.
    private static void isTheLastOnesAlone() {
        PrimeKeys x = new PrimeKeys();
        Hand.key(x, SECRET);
        int length = x.sign(0);
        Check.same("last byte of a signature", x.result(length - 1), Reference.sign(SECRET, new byte[0])[length - 1] & 255);
        Check.refuses("behind the signature", x, IndexOutOfBoundsException.class, () -> x.result(length));
        x.open(0);
        Check.same("first byte of a public key", x.result(0), 4);
        x.back(-1, 0);
        x.agree(0);
        byte[] due = Reference.bytes32(Reference.times(SECRET.pow(2), Reference.BASE)[0]);
        Check.same("the secret", Hand.result(x), due);
        Check.same("last byte of the secret", x.result(31), due[31] & 255);
        Check.refuses("result(32)", x, IndexOutOfBoundsException.class, () -> x.result(32));
        Check.refuses("result(64)", x, IndexOutOfBoundsException.class, () -> x.result(64));
    }

    private static void refusesOtherPlaces() {
        int[] wrong = {-1, 0, 1, 64, Integer.MIN_VALUE, Integer.MAX_VALUE};
        for (int i : wrong) {
            PrimeKeys x = new PrimeKeys();
            Check.refuses("result(" + i + ") of nothing", x, IndexOutOfBoundsException.class, () -> x.result(i));
        }
        for (int i : new int[] {-1, 65, Integer.MIN_VALUE, Integer.MAX_VALUE}) {
            PrimeKeys x = new PrimeKeys();
            Hand.key(x, SECRET);
            x.open(0);
            Check.refuses("result(" + i + ")", x, IndexOutOfBoundsException.class, () -> x.result(i));
        }
    }
}
