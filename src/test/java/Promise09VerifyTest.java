import java.math.BigInteger;
import java.util.Arrays;
import java.util.Random;

/** Promise 9: verify. */
public final class Promise09VerifyTest {
    private static final BigInteger SECRET = Reference.hex("0badc0de00112233445566778899aabbccddeeff0011223344556677889900aa");
    private static final byte[] MESSAGE = Hand.text("the message");
    private static final byte[] PUBLIC = Reference.publicKey(SECRET);
    private static final byte[] SIGNATURE = Reference.sign(SECRET, MESSAGE);
    private static final BigInteger E = Reference.number(Reference.digest(MESSAGE));

    public static void main(String[] args) {
        goodOnes();
        noSignatures();
        outOfRange();
        noPublicKeys();
        notGood();
        firstThatHolds();
        neutralSum();
        doublingSum();
        xAboveTheOrder();
        everyByteChanged();
        otherThingsStay();
        nothingStaysOfTheLastOne();
        refusesShortTapes();
        Check.end();
    }

    private static void judged(String what, byte[] publicKey, byte[] signature, int due) {
        PrimeKeys x = new PrimeKeys();
        Hand.message(x, MESSAGE);
        Check.same(what + ": verify", Hand.verify(x, publicKey, signature), due);
        Check.same(what + ": reference", Reference.verify(MESSAGE, publicKey, signature), due);
        Check.same(what + ": tape", x.count(0), 0);
        Check.same(what + ": message's length", x.count(2), MESSAGE.length);
        for (int verdict = 0; verdict < 5; verdict++) {
            Check.same(what + ": count of " + verdict, x.count(5 + verdict), verdict == due ? 1 : 0);
        }
    }

    private static void goodOnes() {
        judged("a good signature", PUBLIC, SIGNATURE, 0);
        BigInteger[] numbers = Reference.numbersOf(SIGNATURE);
        // With s its negative is good as well, and the standard does not mind.
        judged("n - s", PUBLIC, Reference.der(numbers[0], Reference.N.subtract(numbers[1])), 0);
        for (int i = 1; i <= 20; i++) {
            BigInteger low = BigInteger.valueOf(i);
            BigInteger high = Reference.N.subtract(low);
            judged("key " + i, Reference.publicKey(low), Reference.sign(low, MESSAGE), 0);
            judged("key n - " + i, Reference.publicKey(high), Reference.sign(high, MESSAGE), 0);
        }
    }

    private static void noSignatures() {
        judged("nothing", PUBLIC, new byte[0], 1);
        for (int length = 0; length < SIGNATURE.length; length++) {
            judged("its first " + length + " bytes", PUBLIC, Arrays.copyOf(SIGNATURE, length), 1);
        }
        judged("a byte behind", PUBLIC, Arrays.copyOf(SIGNATURE, SIGNATURE.length + 1), 1);
        judged("twice", PUBLIC, Hand.join(SIGNATURE, SIGNATURE), 1);
        judged("long", PUBLIC, Arrays.copyOf(SIGNATURE, 3000), 1);
        String[] wrong = {
            "30", "3000", "300102", "30020200", "3003020101", "300402000200", "3005020101", "30050201010200",
            "300602010102010100", "3007020101020101", "3005020101020101", "3006020101020201", "3006020101",
            "300602010102", "30060201010201", "3006020201020101", "3006020001020101", "3106020101020101",
            "2006020101020101", "b006020101020101", "3006030101020101", "3006020101030101", "3006820101020101",
            "308106020101020101", "30800201010201010000", "3086020101020101", "30070202000102 0101",
            "300702010102020001", "30070202007f020101", "3006020180020101", "3006020101020180", "30060201ff020101",
            "3007020101020101 05", "3008020101020101 0500", "30060201010201", "3009020101020101020101",
            "3003020101020101", "300b02010102010102010102", "3006028101020101", "30070281010102 0101",
            "3007020101028101 01"
        };
        for (String hex : wrong) {
            judged(hex, PUBLIC, Hand.bytes(hex.replace(" ", "")), 1);
        }
        numbersOfManyBytes();
    }

    private static void numbersOfManyBytes() {
        byte[] one = {1};
        byte[] bytes34 = new byte[34];
        bytes34[0] = 1;
        judged("r of 34 bytes", PUBLIC, Reference.sequence(bytes34, one), 1);
        judged("s of 34 bytes", PUBLIC, Reference.sequence(one, bytes34), 1);
        judged("r of 120 bytes", PUBLIC, Reference.sequence(Arrays.copyOf(bytes34, 119), one), 1);
        byte[] zeros = new byte[33];
        judged("r of 33 zeros", PUBLIC, Reference.sequence(zeros, one), 1);
        judged("s of 33 zeros", PUBLIC, Reference.sequence(one, zeros), 1);
        judged("r of two zeros", PUBLIC, Reference.sequence(new byte[2], one), 1);
        BigInteger[] numbers = Reference.numbersOf(SIGNATURE);
        byte[] r = Reference.bytes32(numbers[0]);
        byte[] s = Reference.bytes32(numbers[1]);
        judged("r with a 0 too much", PUBLIC,
            Reference.sequence(Hand.join(new byte[1], numbers[0].toByteArray()), numbers[1].toByteArray()), 1);
        judged("s with a 0 too much", PUBLIC,
            Reference.sequence(numbers[0].toByteArray(), Hand.join(new byte[1], numbers[1].toByteArray())), 1);
        judged("r and s without their forms", PUBLIC, Hand.join(r, s), 1);
    }

    private static void outOfRange() {
        BigInteger[] numbers = Reference.numbersOf(SIGNATURE);
        BigInteger[] wrong = {
            BigInteger.ZERO, Reference.N, Reference.N.add(BigInteger.ONE), Reference.P,
            BigInteger.ONE.shiftLeft(256).subtract(BigInteger.ONE), BigInteger.ONE.shiftLeft(256),
            BigInteger.ONE.shiftLeft(256).add(BigInteger.ONE), BigInteger.ONE.shiftLeft(263).subtract(BigInteger.ONE),
            numbers[0].add(BigInteger.ONE.shiftLeft(256)), numbers[1].add(BigInteger.ONE.shiftLeft(262))
        };
        for (BigInteger number : wrong) {
            judged("r = " + number, PUBLIC, Reference.der(number, numbers[1]), 2);
            judged("s = " + number, PUBLIC, Reference.der(numbers[0], number), 2);
            judged("r = s = " + number, PUBLIC, Reference.der(number, number), 2);
        }
        BigInteger last = Reference.N.subtract(BigInteger.ONE);
        judged("r = n - 1", PUBLIC, Reference.der(last, numbers[1]), 4);
        judged("s = n - 1", PUBLIC, Reference.der(numbers[0], last), 4);
        judged("r = 1", PUBLIC, Reference.der(BigInteger.ONE, numbers[1]), 4);
        judged("s = 1", PUBLIC, Reference.der(numbers[0], BigInteger.ONE), 4);
    }

    private static void noPublicKeys() {
        for (int first = 0; first < 256; first++) {
            byte[] row = PUBLIC.clone();
            row[0] = (byte) first;
            judged("first byte " + first, row, SIGNATURE, first == 4 ? 0 : 3);
        }
        judged("all 0", new byte[65], SIGNATURE, 3);
        judged("0, 0", Reference.publicBytes(BigInteger.ZERO, BigInteger.ZERO), SIGNATURE, 3);
        BigInteger x = BigInteger.valueOf(5);
        judged("x = 5", Reference.publicBytes(x, Reference.yOf(x)), SIGNATURE, 4);
        judged("x = 5 + p", Reference.publicBytes(x.add(Reference.P), Reference.yOf(x)), SIGNATURE, 3);
        judged("x = p", Reference.publicBytes(Reference.P, Reference.yOf(BigInteger.ZERO)), SIGNATURE, 3);
        judged("y = p", Reference.publicBytes(x, Reference.P), SIGNATURE, 3);
    }

    private static void notGood() {
        judged("another key", Reference.publicKey(SECRET.add(BigInteger.ONE)), SIGNATURE, 4);
        judged("the key's negative", Reference.publicKey(Reference.N.subtract(SECRET)), SIGNATURE, 4);
        judged("another message", PUBLIC, Reference.sign(SECRET, Hand.text("another message")), 4);
        BigInteger[] numbers = Reference.numbersOf(SIGNATURE);
        judged("r and s changed over", PUBLIC, Reference.der(numbers[1], numbers[0]), 4);
        judged("r = s = 1", PUBLIC, Reference.der(BigInteger.ONE, BigInteger.ONE), 4);
        PrimeKeys x = new PrimeKeys();
        Check.same("verify with the first, empty message", Hand.verify(x, PUBLIC, SIGNATURE), 4);
        Check.same("verify of the empty message", Hand.verify(x, PUBLIC, Reference.sign(SECRET, new byte[0])), 0);
    }

    private static void firstThatHolds() {
        byte[] noKey = new byte[65];
        judged("no signature, no key", noKey, new byte[0], 1);
        judged("no signature in its second number, first 0", noKey, Hand.bytes("3007020100020200 01".replace(" ", "")), 1);
        judged("r is 0, no key", noKey, Reference.der(BigInteger.ZERO, BigInteger.ONE), 2);
        judged("s is n, no key", noKey, Reference.der(BigInteger.ONE, Reference.N), 2);
        judged("not good, no key", noKey, Reference.der(BigInteger.ONE, BigInteger.ONE), 3);
    }

    // r = -e / secret makes u * base + v * key the neutral point, whatever s is.
    private static void neutralSum() {
        for (BigInteger secret : new BigInteger[] {SECRET, BigInteger.ONE, Reference.N.subtract(BigInteger.ONE)}) {
            BigInteger r = E.negate().multiply(secret.modInverse(Reference.N)).mod(Reference.N);
            judged("neutral sum", Reference.publicKey(secret), Reference.der(r, r), 4);
            judged("neutral sum, s = 1", Reference.publicKey(secret), Reference.der(r, BigInteger.ONE), 4);
            judged("neutral sum, s = e", Reference.publicKey(secret), Reference.der(r, E.mod(Reference.N)), 4);
        }
    }

    // A nonce k, and the secret e / r: then u * base and v * key are the same point.
    private static void doublingSum() {
        Random random = new Random(9);
        for (int i = 0; i < 10; i++) {
            BigInteger k = new BigInteger(255, random).add(BigInteger.ONE);
            BigInteger r = Reference.times(k, Reference.BASE)[0].mod(Reference.N);
            BigInteger secret = E.multiply(r.modInverse(Reference.N)).mod(Reference.N);
            BigInteger s = E.shiftLeft(1).multiply(k.modInverse(Reference.N)).mod(Reference.N);
            judged("doubling sum", Reference.publicKey(secret), Reference.der(r, s), 0);
        }
    }

    // The sum's x is the order or above, so r is x less the order.
    private static void xAboveTheOrder() {
        BigInteger x = Reference.N;
        for (int found = 0; found < 5; x = x.add(BigInteger.ONE)) {
            BigInteger y = Reference.yOf(x);
            BigInteger r = x.subtract(Reference.N);
            if (y != null && r.signum() > 0) {
                found++;
                BigInteger s = BigInteger.valueOf(1000 + found);
                BigInteger w = s.modInverse(Reference.N);
                BigInteger u = E.multiply(w).mod(Reference.N);
                BigInteger v = r.multiply(w).mod(Reference.N);
                BigInteger[] rest = Reference.add(new BigInteger[] {x, y},
                    Reference.negative(Reference.times(u, Reference.BASE)));
                BigInteger[] key = Reference.times(v.modInverse(Reference.N), rest);
                judged("x above the order", Reference.publicBytes(key[0], key[1]), Reference.der(r, s), 0);
            }
        }
    }

    private static void everyByteChanged() {
        byte[] all = Hand.join(PUBLIC, SIGNATURE);
        for (int at = 0; at < all.length; at++) {
            for (int with : new int[] {1, 128, 255}) {
                byte[] row = all.clone();
                row[at] ^= (byte) with;
                byte[] publicKey = Arrays.copyOf(row, 65);
                byte[] signature = Arrays.copyOfRange(row, 65, row.length);
                int due = Reference.verify(MESSAGE, publicKey, signature);
                Check.isTrue("a changed byte is told", due != 0);
                judged("byte " + at + " with " + with, publicKey, signature, due);
            }
        }
    }

    private static void otherThingsStay() {
        PrimeKeys x = new PrimeKeys();
        Hand.key(x, SECRET);
        Hand.message(x, MESSAGE);
        x.open(0);
        byte[] before = Hand.result(x);
        Check.same("first verdict", Hand.verify(x, PUBLIC, SIGNATURE), 0);
        Check.same("second verdict", Hand.verify(x, PUBLIC, SIGNATURE), 0);
        Check.same("third verdict", Hand.verify(x, PUBLIC, new byte[9]), 1);
        Check.same("result after verify", Hand.result(x), before);
        Check.same("count of 0", x.count(5), 2);
        Check.same("count of 1", x.count(6), 1);
        Check.same("signatures made", x.count(4), 0);
        x.sign(0);
        Check.same("message after verify", Hand.result(x), SIGNATURE);
    }

    // Long numbers, then short ones, then a signature that is made: on one object.
    private static void nothingStaysOfTheLastOne() {
        PrimeKeys x = new PrimeKeys();
        Hand.key(x, SECRET);
        Hand.message(x, MESSAGE);
        BigInteger longest = BigInteger.ONE.shiftLeft(263).subtract(BigInteger.ONE);
        Check.same("good", Hand.verify(x, PUBLIC, SIGNATURE), 0);
        Check.same("r is 0", Hand.verify(x, PUBLIC, Reference.der(BigInteger.ZERO, BigInteger.ONE)), 2);
        Check.same("good", Hand.verify(x, PUBLIC, SIGNATURE), 0);
        Check.same("s is 0", Hand.verify(x, PUBLIC, Reference.der(BigInteger.ONE, BigInteger.ZERO)), 2);
        Check.same("long r and s", Hand.verify(x, PUBLIC, Reference.der(longest, longest)), 2);
        Check.same("good after long ones", Hand.verify(x, PUBLIC, SIGNATURE), 0);
        Check.same("no key", Hand.verify(x, new byte[65], SIGNATURE), 3);
        Check.same("good after no key", Hand.verify(x, PUBLIC, SIGNATURE), 0);
        Check.same("long r and s", Hand.verify(x, PUBLIC, Reference.der(longest, longest)), 2);
        x.sign(0);
        Check.same("signature after long numbers", Hand.result(x), SIGNATURE);
    }

    private static void refusesShortTapes() {
        PrimeKeys x = new PrimeKeys();
        Hand.key(x, SECRET);
        Hand.feed(x, PUBLIC);
        x.end(64);
        Check.refuses("verify of 64 bytes", x, IllegalArgumentException.class, x::verify);
        Hand.tapeIs("tape after refusal", x, SECRET, Arrays.copyOf(PUBLIC, 64));
        Check.refuses("verify of nothing", x, IllegalArgumentException.class, x::verify);
        Hand.feed(x, PUBLIC);
        Check.same("verify of 65 bytes", x.verify(), 1);
    }
}
