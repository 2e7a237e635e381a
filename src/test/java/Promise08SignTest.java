import java.math.BigInteger;
import java.util.NoSuchElementException;
import java.util.Random;

/** Promise 8: sign. */
public final class Promise08SignTest {
    private static final BigInteger RFC_SECRET =
        Reference.hex("c9afa9d845ba75166b5c215767b1d6934e50c3db36e89b127b8a622b120f6721");

    public static void main(String[] args) {
        vectorsOfTheRfc();
        refusedNonce();
        digestAboveTheOrder();
        edgesOfTheKey();
        allLengths();
        otherThingsStay();
        refusesOtherKeys();
        Check.end();
    }

    // RFC 6979, A.2.5
    private static void vectorsOfTheRfc() {
        isSigned(RFC_SECRET, Hand.text("sample"),
            "efd48b2aacb6a8fd1140dd9cd45e81d69d2c877b56aaf991c34d0ea84eaf3716",
            "f7cb1c942d657c41d436c7a1b6e29f65f3e900dbb9aff4064dc4ab2f843acda8");
        isSigned(RFC_SECRET, Hand.text("test"),
            "f1abb023518351cd71d881567b1ea663ed3efcf6c5132b354f28d3b0b7d38367",
            "019f4113742a2b14bd25926b49c649155f267e60d3814b4c0cc84250e46f0083");
    }

    // A message known to make the RFC's first candidate too high: that is so in one of 2^32.
    private static void refusedNonce() {
        byte[] message = Hand.text("wv[vnX");
        Check.same("refused candidates", Reference.refused(RFC_SECRET, message), 1);
        isSigned(RFC_SECRET, message,
            "efd9073b652e76da1b5a019c0e4a2e3fa529b035a6abb91ef67f0ed7a1f21234",
            "3db4706c9d9f4a4fe13bb5e08ef0fab53a57dbab2061c83a35fa411c68d2ba33");
    }

    // Such a digest too comes in one of 2^32; this message was searched for.
    private static void digestAboveTheOrder() {
        byte[] message = Hand.bytes("0000000003c25d75");
        Check.isTrue("digest above the order", Reference.number(Reference.digest(message)).compareTo(Reference.N) > 0);
        isSigned(RFC_SECRET, message);
        isSigned(BigInteger.ONE, message);
    }

    private static void edgesOfTheKey() {
        for (int i = 1; i <= 20; i++) {
            isSigned(BigInteger.valueOf(i), Hand.text("edge"));
            isSigned(Reference.N.subtract(BigInteger.valueOf(i)), Hand.text("edge"));
        }
    }

    private static void allLengths() {
        Random random = new Random(8);
        boolean[] seen = new boolean[80];
        for (int i = 0; i < 600; i++) {
            byte[] message = new byte[random.nextInt(100)];
            random.nextBytes(message);
            seen[isSigned(new BigInteger(255, random).add(BigInteger.ONE), message)] = true;
        }
        for (int length = 69; length <= 72; length++) {
            Check.isTrue("a signature of " + length + " bytes was made", seen[length]);
        }
    }

    private static void isSigned(BigInteger secret, byte[] message, String r, String s) {
        Check.same("reference", Reference.sign(secret, message), Reference.der(Reference.hex(r), Reference.hex(s)));
        isSigned(secret, message);
    }

    private static int isSigned(BigInteger secret, byte[] message) {
        PrimeKeys x = new PrimeKeys();
        Hand.key(x, secret);
        Hand.message(x, message);
        byte[] due = Reference.sign(secret, message);
        Check.same("length of a signature", x.sign(0), due.length);
        Check.same("signature with " + secret, Hand.result(x), due);
        Check.same("signatures made", x.count(4), 1);
        Check.same("verdict on it", Hand.verify(x, Reference.publicKey(secret), due), 0);
        return due.length;
    }

    private static void otherThingsStay() {
        PrimeKeys x = new PrimeKeys();
        Hand.key(x, BigInteger.TWO);
        Hand.key(x, BigInteger.TEN);
        Hand.message(x, Hand.text("m"));
        Hand.feed(x, Hand.text("tape"));
        for (int i = 1; i <= 3; i++) {
            x.sign(1);
            Check.same("signatures made", x.count(4), i);
            Check.same("signature", Hand.result(x), Reference.sign(BigInteger.TEN, Hand.text("m")));
        }
        Check.same("keys after sign", x.count(1), 2);
        Hand.tapeIs("tape after sign", x, BigInteger.TWO, Hand.text("tape"));
    }

    private static void refusesOtherKeys() {
        int[] wrong = {-1, 1, 2, 100, Integer.MIN_VALUE, Integer.MAX_VALUE};
        for (int key : wrong) {
            PrimeKeys x = new PrimeKeys();
            Hand.key(x, BigInteger.TWO);
            x.sign(0);
            Check.refuses("sign(" + key + ")", x, NoSuchElementException.class, () -> x.sign(key));
        }
    }
}
