import java.math.BigInteger;
import java.util.Arrays;

/**
 * Promise 9 at its edges: "the first that holds: 1 they are no SIGNATURE; 2 r or s is not 1 .. n - 1; 3 the
 * first are no PUBLIC KEY; 4 it is not good by the standard; 0 it is good. ... the TAPE has fewer than 65
 * bytes." What is a SIGNATURE stands in EdgesSignatureTest, what is a PUBLIC KEY in EdgesPublicKeyTest.
 */
public final class Edges09VerifyTest {
    private static final BigInteger ONE = BigInteger.ONE;
    private static final BigInteger LAST = Reference.N.subtract(ONE);
    private static final BigInteger SECRET = Reference.hex("5a5a5a5a00000000ffffffff00000000123456789abcdef0fedcba9876543210");
    private static final byte[] TEXT = Hand.text("verify this");
    private static final byte[] PUBLIC = Reference.publicKey(SECRET);
    private static final byte[] GOOD = Reference.sign(SECRET, TEXT);
    private static final BigInteger R = Reference.numbersOf(GOOD)[0];
    private static final BigInteger S = Reference.numbersOf(GOOD)[1];

    public static void main(String[] args) {
        bothSidesOf65Bytes();
        bothSidesOfOne();
        bothSidesOfTheOrder();
        everyByteOfTheOrder();
        numbersOf33Bytes();
        theFirstThatHolds();
        goodAndNotGood();
        sumsAtTheEdge();
        sumsThatMeetOnTheWay();
        xAtTheOrder();
        xBesideR();
        theMessageOfTheTime();
        everyVerdictIsCounted();
        theDigestIsTooHigh();
        changesNothingElse();
        Check.end();
    }

    private static void judged(String what, int due, byte[] publicKey, byte[] signature) {
        Run run = new Run(what);
        run.message(TEXT);
        run.verdict(due, publicKey, signature);
        run.gives(0, "count", 0);
        for (int verdict = 0; verdict < 5; verdict++) {
            run.gives(verdict == due ? 1 : 0, "count", 5 + verdict);
        }
    }

    private static void judged(String what, int due, BigInteger r, BigInteger s) {
        judged(what, due, PUBLIC, Reference.der(r, s));
    }

    // Cut from a longer tape, where the bytes behind may still stand.
    private static void bothSidesOf65Bytes() {
        for (int length : new int[] {0, 1, 20, 32, 33, 63, 64}) {
            Run run = new Run("a tape of " + length);
            run.message(TEXT);
            run.tape(Hand.join(PUBLIC, GOOD));
            run.gives(length, "end", length);
            run.refuses(IllegalArgumentException.class, "verify");
            run.gives(length, "count", 0);
            run.tapeIs(Arrays.copyOf(PUBLIC, length));
            for (int what = 5; what <= 9; what++) {
                run.gives(0, "count", what);
            }
        }
        for (int length : new int[] {65, 66, 67, 72}) {
            Run run = new Run("a tape of " + length);
            run.message(TEXT);
            run.tape(Hand.join(PUBLIC, GOOD));
            run.gives(length, "end", length);
            run.gives(1, "verify");
            run.gives(0, "count", 0);
            run.gives(1, "count", 6);
        }
    }

    private static void bothSidesOfOne() {
        BigInteger zero = BigInteger.ZERO;
        judged("r = 0", 2, zero, S);
        judged("r = 1", 4, ONE, S);
        judged("s = 0", 2, R, zero);
        judged("s = 1", 4, R, ONE);
        judged("both 0", 2, zero, zero);
        judged("both 1", 4, ONE, ONE);
        judged("r = 0, s = n", 2, zero, Reference.N);
    }

    private static void bothSidesOfTheOrder() {
        judged("r = n - 1", 4, LAST, S);
        judged("r = n", 2, Reference.N, S);
        judged("r = n + 1", 2, Reference.N.add(ONE), S);
        judged("s = n - 1", 4, R, LAST);
        judged("s = n", 2, R, Reference.N);
        judged("s = n + 1", 2, R, Reference.N.add(ONE));
        judged("both n - 1", 4, LAST, LAST);
        judged("both n", 2, Reference.N, Reference.N);
        judged("r = p", 2, Reference.P, S);
        judged("s = p", 2, R, Reference.P);
    }

    private static void everyByteOfTheOrder() {
        byte[] order = Reference.bytes32(Reference.N);
        for (int at = 0; at < 32; at++) {
            byte[] row = order.clone();
            if (order[at] != -1) {
                row[at]++;
                judged("r = n, byte " + at + " higher", 2, Reference.number(row), S);
                judged("s = n, byte " + at + " higher", 2, R, Reference.number(row));
            }
            row = order.clone();
            if (order[at] != 0) {
                row[at]--;
                judged("r = n, byte " + at + " lower", 4, Reference.number(row), S);
                judged("s = n, byte " + at + " lower", 4, R, Reference.number(row));
            }
        }
    }

    // Numbers above 2^256, among them some that would be good if their highest byte were left out.
    private static void numbersOf33Bytes() {
        BigInteger top = ONE.shiftLeft(256);
        judged("r = 2^256 - 1", 2, top.subtract(ONE), S);
        judged("s = 2^256 - 1", 2, R, top.subtract(ONE));
        judged("r = 2^256", 2, top, S);
        judged("s = 2^256", 2, R, top);
        for (int bit = 256; bit < 263; bit++) {
            judged("r + 2^" + bit, 2, R.add(ONE.shiftLeft(bit)), S);
            judged("s + 2^" + bit, 2, R, S.add(ONE.shiftLeft(bit)));
        }
        judged("the highest", 2, ONE.shiftLeft(263).subtract(ONE), ONE.shiftLeft(263).subtract(ONE));
        judged("r + n", 2, R.add(Reference.N), S);
        judged("s + n", 2, R, S.add(Reference.N));
    }

    private static void theFirstThatHolds() {
        byte[] behind = Arrays.copyOf(GOOD, GOOD.length + 1);
        byte[][] none = {new byte[0], Hand.bytes("3000"), behind, Hand.bytes("300702010002020001")};
        byte[][] outside = {
            Reference.der(BigInteger.ZERO, S), Reference.der(R, Reference.N), Reference.der(ONE.shiftLeft(256), S)
        };
        byte[] changed = PUBLIC.clone();
        changed[64] ^= 1;
        byte[] first = PUBLIC.clone();
        first[0] = 3;
        byte[][] noKeys = {new byte[65], changed, first};
        for (byte[] key : new byte[][] {PUBLIC, noKeys[0], noKeys[1], noKeys[2]}) {
            for (byte[] row : none) {
                judged("no signature", 1, key, row);
            }
            for (byte[] row : outside) {
                judged("out of range", 2, key, row);
            }
        }
        for (byte[] key : noKeys) {
            judged("no public key, a good signature", 3, key, GOOD);
            judged("no public key, not good", 3, key, Reference.der(ONE, ONE));
        }
        judged("not good", 4, PUBLIC, Reference.der(ONE, ONE));
        judged("good", 0, PUBLIC, GOOD);
    }

    private static void goodAndNotGood() {
        judged("n - s is good too", 0, R, Reference.N.subtract(S));
        judged("n - r", 4, Reference.N.subtract(R), S);
        judged("r + 1", 4, R.add(ONE), S);
        judged("r - 1", 4, R.subtract(ONE), S);
        judged("s + 1", 4, R, S.add(ONE));
        judged("s - 1", 4, R, S.subtract(ONE));
        judged("r and s changed over", 4, S, R);
        for (int bit = 0; bit < 255; bit += 6) {
            judged("bit " + bit + " of r", 4, R.flipBit(bit), S);
            judged("bit " + bit + " of s", 4, R, S.flipBit(bit));
        }
        for (BigInteger secret : new BigInteger[] {ONE, BigInteger.TWO, LAST, LAST.subtract(ONE)}) {
            judged("key " + secret, 0, Reference.publicKey(secret), Reference.sign(secret, TEXT));
            judged("another key", 4, Reference.publicKey(secret), GOOD);
        }
        judged("the key's negative", 4, Reference.publicKey(Reference.N.subtract(SECRET)), GOOD);
    }

    // By the standard the sum must not be the neutral point; and it may be twice one point.
    private static void sumsAtTheEdge() {
        BigInteger e = Reference.number(Reference.digest(TEXT));
        for (BigInteger secret : new BigInteger[] {SECRET, ONE, LAST, BigInteger.TWO}) {
            BigInteger r = e.negate().multiply(secret.modInverse(Reference.N)).mod(Reference.N);
            for (BigInteger s : new BigInteger[] {ONE, LAST, r, S}) {
                judged("a neutral sum", 4, Reference.publicKey(secret), Reference.der(r, s));
            }
        }
        for (int i = 1; i <= 5; i++) {
            BigInteger k = SECRET.add(BigInteger.valueOf(i));
            BigInteger r = Reference.times(k, Reference.BASE)[0].mod(Reference.N);
            BigInteger secret = e.multiply(r.modInverse(Reference.N)).mod(Reference.N);
            BigInteger s = e.shiftLeft(1).multiply(k.modInverse(Reference.N)).mod(Reference.N);
            judged("twice one point", 0, Reference.publicKey(secret), Reference.der(r, s));
            judged("twice one point, r + 1", 4, Reference.publicKey(secret), Reference.der(r.add(ONE), s));
        }
    }

    // Who walks both factors from their highest digits on, four bits at a time, comes with these keys to one
    // point twice, or to the neutral point, before the end: with the first digits if the key is 1 or -1, with the
    // second one of the base's factor if it is a sixteenth.
    private static void sumsThatMeetOnTheWay() {
        BigInteger sixteenth = BigInteger.valueOf(16).modInverse(Reference.N);
        for (BigInteger secret : new BigInteger[] {ONE, sixteenth}) {
            meetOnTheWay(secret, secret.equals(ONE) ? 252 : 248);
            meetOnTheWay(Reference.N.subtract(secret), secret.equals(ONE) ? 252 : 248);
        }
    }

    private static void meetOnTheWay(BigInteger secret, int shift) {
        BigInteger e = Reference.number(Reference.digest(TEXT));
        byte[] key = Reference.publicKey(secret);
        BigInteger[] point = Reference.times(SECRET, Reference.BASE);
        BigInteger k = SECRET;
        for (int found = 0; found < 4; ) {
            point = Reference.add(point, point);
            k = k.shiftLeft(1).mod(Reference.N);
            BigInteger r = point[0].mod(Reference.N);
            BigInteger s = e.add(r.multiply(secret)).multiply(k.modInverse(Reference.N)).mod(Reference.N);
            BigInteger w = s.modInverse(Reference.N);
            int ofBase = e.multiply(w).mod(Reference.N).shiftRight(shift).intValue();
            int ofKey = r.multiply(w).mod(Reference.N).shiftRight(248).intValue();
            if (ofBase == ofKey >> 4 && ofBase > 0 && (ofKey & 15) > 0) {
                found++;
                judged("sums that meet on the way", 0, key, Reference.der(r, s));
                judged("the same with r + 1", 4, key, Reference.der(r.add(ONE), s));
            }
        }
    }

    // x of the sum lies from the order to the prime: r is x less the order, while x itself is out of range.
    private static void xAtTheOrder() {
        BigInteger x = Reference.N;
        for (int found = 0; found < 4; x = x.add(ONE)) {
            BigInteger r = x.subtract(Reference.N);
            if (Reference.yOf(x) != null && r.signum() > 0) {
                found++;
                BigInteger s = SECRET.add(BigInteger.valueOf(found));
                byte[] key = keyForSum(x, r, s);
                judged("x above the order", 0, key, Reference.der(r, s));
                judged("x itself", 2, key, Reference.der(x, s));
                judged("r + 1", 4, key, Reference.der(r.add(ONE), s));
                BigInteger near = r.add(ONE);
                judged("r beside x above the order", 4, keyForSum(x, near, s), Reference.der(near, s));
            }
        }
    }

    // The public key with which this r and s bring the point with this x as the sum, be r its x or not.
    private static byte[] keyForSum(BigInteger x, BigInteger r, BigInteger s) {
        BigInteger e = Reference.number(Reference.digest(TEXT));
        BigInteger w = s.modInverse(Reference.N);
        BigInteger[] sum = {x, Reference.yOf(x)};
        BigInteger[] rest = Reference.add(sum,
            Reference.negative(Reference.times(e.multiply(w).mod(Reference.N), Reference.BASE)));
        BigInteger[] key = Reference.times(r.multiply(w).modInverse(Reference.N), rest);
        return Reference.publicBytes(key[0], key[1]);
    }

    // Sums whose x is not r, but only just: one bit apart.
    private static void xBesideR() {
        BigInteger x = Reference.BASE[0];
        judged("x is r", 0, keyForSum(x, x, S), Reference.der(x, S));
        for (int bit = 0; bit < 256; bit++) {
            BigInteger r = x.flipBit(bit);
            if (Reference.isInRange(r)) {
                judged("x is r but for bit " + bit, 4, keyForSum(x, r, S), Reference.der(r, S));
            }
        }
    }

    private static void theMessageOfTheTime() {
        Run run = new Run("messages");
        run.verdict(4, PUBLIC, GOOD);
        run.verdict(0, PUBLIC, Reference.sign(SECRET, new byte[0]));
        run.message(TEXT);
        run.verdict(0, PUBLIC, GOOD);
        run.verdict(4, PUBLIC, Reference.sign(SECRET, new byte[0]));
        run.verdict(0, PUBLIC, GOOD);
        run.message(Arrays.copyOf(TEXT, TEXT.length - 1));
        run.verdict(4, PUBLIC, GOOD);
        run.message(Arrays.copyOf(TEXT, TEXT.length + 1));
        run.verdict(4, PUBLIC, GOOD);
        run.message(TEXT);
        run.verdict(0, PUBLIC, GOOD);
    }

    private static void everyVerdictIsCounted() {
        Run run = new Run("verdicts");
        run.message(TEXT);
        byte[][] keys = {PUBLIC, PUBLIC, PUBLIC, new byte[65], PUBLIC};
        byte[][] rows = {GOOD, new byte[9], Reference.der(R, Reference.N), GOOD, Reference.der(S, R)};
        int[] due = new int[5];
        for (int i = 0; i < 30; i++) {
            int verdict = i * i % 7 % 5;
            run.verdict(verdict, keys[verdict], rows[verdict]);
            due[verdict]++;
            run.gives(due[verdict], "count", 5 + verdict);
        }
        for (int verdict = 0; verdict < 5; verdict++) {
            run.gives(due[verdict], "count", 5 + verdict);
        }
        run.refuses(IllegalArgumentException.class, "verify");
    }

    private static void theDigestIsTooHigh() {
        byte[] message = Hand.bytes("0000000003c25d75");
        Run run = new Run("a digest above the order");
        run.message(message);
        run.verdict(0, PUBLIC, Reference.sign(SECRET, message));
        run.verdict(4, PUBLIC, GOOD);
    }

    private static void changesNothingElse() {
        Run run = new Run("verify and the rest");
        run.key(ONE);
        run.message(TEXT);
        run.call("sign", 0);
        byte[] due = Reference.sign(ONE, TEXT);
        run.verdict(0, PUBLIC, GOOD);
        run.resultIs(due);
        run.messageIs(TEXT);
        run.verdict(1, PUBLIC, new byte[0]);
        run.verdict(2, PUBLIC, Reference.der(R, Reference.N));
        run.verdict(3, new byte[65], GOOD);
        run.verdict(4, PUBLIC, due);
        run.gives(1, "count", 4);
        run.gives(1, "count", 1);
        run.resultIs(due);
        run.showsAll();
    }
}
