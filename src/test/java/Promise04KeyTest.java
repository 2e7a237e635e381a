import java.math.BigInteger;

/** Promise 4: key. */
public final class Promise04KeyTest {
    public static void main(String[] args) {
        numbersCountUp();
        takesItsEdges();
        refusesNumbersOutside();
        refusesOtherLengths();
        refusesThe101st();
        Check.end();
    }

    private static void numbersCountUp() {
        PrimeKeys x = new PrimeKeys();
        for (int i = 0; i < 5; i++) {
            Check.same("number of a key", Hand.key(x, BigInteger.valueOf(9)), i);
            Check.same("keys", x.count(1), i + 1);
            Check.same("tape after key", x.count(0), 0);
        }
        Check.same("another number", Hand.key(x, BigInteger.valueOf(8)), 5);
        x.open(4);
        Check.same("the same number again", Hand.result(x), Reference.publicKey(BigInteger.valueOf(9)));
        x.open(5);
        Check.same("the other number", Hand.result(x), Reference.publicKey(BigInteger.valueOf(8)));
    }

    private static void takesItsEdges() {
        PrimeKeys x = new PrimeKeys();
        BigInteger last = Reference.N.subtract(BigInteger.ONE);
        Check.same("key 1", Hand.key(x, BigInteger.ONE), 0);
        Check.same("key n - 1", Hand.key(x, last), 1);
        x.open(0);
        Check.same("public key of 1", Hand.result(x), Reference.publicKey(BigInteger.ONE));
        x.open(1);
        Check.same("public key of n - 1", Hand.result(x), Reference.publicKey(last));
    }

    private static void refusesNumbersOutside() {
        BigInteger[] wrong = {
            BigInteger.ZERO, Reference.N, Reference.N.add(BigInteger.ONE), Reference.P,
            BigInteger.ONE.shiftLeft(256).subtract(BigInteger.ONE), Reference.N.add(BigInteger.ONE.shiftLeft(223))
        };
        for (BigInteger number : wrong) {
            PrimeKeys x = new PrimeKeys();
            Hand.key(x, BigInteger.ONE);
            Hand.feed(x, Reference.bytes32(number));
            Check.refuses("key " + number, x, IllegalArgumentException.class, x::key);
            Hand.tapeIs("tape after refusal", x, BigInteger.ONE, Reference.bytes32(number));
        }
    }

    private static void refusesOtherLengths() {
        int[] wrong = {0, 1, 20, 31, 33, 40, 64};
        for (int length : wrong) {
            PrimeKeys x = new PrimeKeys();
            byte[] row = new byte[length];
            if (length > 0) {
                row[length - 1] = 1;
            }
            Hand.feed(x, row);
            Check.refuses("key of " + length + " bytes", x, IllegalArgumentException.class, x::key);
        }
        PrimeKeys x = new PrimeKeys();
        Hand.feed(x, Reference.bytes32(BigInteger.TWO));
        Hand.feed(x, new byte[1]);
        Check.refuses("key and a byte more", x, IllegalArgumentException.class, x::key);
        x.end(32);
        Check.same("the tape stayed, key", x.key(), 0);
    }

    private static void refusesThe101st() {
        Run run = new Run("100 keys");
        for (int i = 0; i < 100; i++) {
            run.key(BigInteger.valueOf(i + 1));
        }
        run.tape(Reference.bytes32(BigInteger.TEN));
        run.refuses(IllegalStateException.class, "key");
        run.gives(31, "end", 31);
        run.refuses(IllegalArgumentException.class, "key");
        run.gives(0, "end", 0);
        run.refuses(IllegalArgumentException.class, "key");
        run.tape(new byte[32]);
        run.refuses(IllegalArgumentException.class, "key");
        run.gives(0, "open", 99);
        run.resultIs(Reference.publicKey(BigInteger.valueOf(100)));
        run.gives(0, "open", 0);
        run.gives(Reference.publicKey(BigInteger.ONE)[1] & 255, "result", 1);
    }
}
