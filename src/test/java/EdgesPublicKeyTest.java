import java.math.BigInteger;
import java.util.Arrays;

/**
 * "A PUBLIC KEY is 65 bytes: 4, x, y, each 32 bytes, the highest first, below the prime, of a point of the
 * curve." Each is looked at through agree and through verify.
 */
public final class EdgesPublicKeyTest {
    private static final BigInteger SECRET = BigInteger.valueOf(137035);
    private static final byte[] TEXT = Hand.text("for public keys");
    private static final byte[] SIGNATURE = Reference.sign(SECRET, TEXT);
    private static final byte[] GOOD = Reference.publicKey(SECRET);
    private static final BigInteger ROOM = BigInteger.ONE.shiftLeft(256).subtract(Reference.P);

    // Points with a y that stays below 2^256 when the prime is added: x, then y.
    private static final String[][] LOW_Y = {
        {"6916fac45e568b6b9e2e2ecd611b282e5fcc40a3067d601057f879ce5a8a73cc", "1"},
        {"7fafb72b9e2f17b87cc216b6785c0bfc860ed577216fd3c8f30a7a8707e613ca", "4"},
        {"d77533723cfdae65ce18ca681d21a02cabc09cdb90ae88e538d471e8ec43f2b7", "100"},
        {"c40cdcacf9ff457c7585ae9a3094cab37b36246868eb76fdffcb56d924e20a4f", "80000000"},
        {"2671d833dd9a9e2075b0bfc4857eec976c8093491f313e535fc073295cf7c2a8", "100000000"},
        {"17ae19651c135676f5d67c0ec8287f67ab71a696f0b9fd1ca3ef9d05406fc27b", "10000000000000000"},
        {"5dae12f445d4abd474cec2275fcb5ba0ebe63dbbf8c5b2cd1c52c3d8cbb70a88", "800000000000000000000000"},
        {"147d9585144afa111b8f37cae1879a27d70d04d2aca9de5d0f4b1a9fd929e5e1", "1000000000000000000000000"},
        {"6abedadec8ed495f8fbe881824703527ce3effeb8bc5512bc7eaffb64406361d", "100000000000000000000000000000000"},
        {"91379a1bc887ab7898e78afd1818800e57b49dc621eb292048917a940b3d9ad9",
            "10000000000000000000000000000000000000000"},
        {"b7c37dedc35153b2dcbbcdce218d6432f6ba15b3d7068720207dcba8a3a9d5ef",
            "800000000000000000000000000000000000000000000000"},
        {"3db223a59d3ac4690d024771a0deed09e2f51cae01aa148cf1c992d0bc64637d",
            "1000000000000000000000000000000000000000000000001"},
        {"7523539a61d40b6f9492412ebf5d8a4a8bb2ceac84c0821b854a4a8fbf49d520",
            "80000000000000000000000000000000000000000000000000000001"},
        {"39d5eaae3158d6bbd2e0696217cc991d0a1eb54306af7e238277ba431e4db995",
            "fffffffefffffffffffffffffffffffeffffffffffffffffffffffff"}
    };

    public static void main(String[] args) {
        bothSidesOf65Bytes();
        theFirstByteIsFour();
        xBelowThePrime();
        yBelowThePrime();
        bothAboveThePrime();
        ofAPointOfTheCurve();
        ofNoCurveBesideIt();
        theNeutralPointIsNone();
        highestFirst();
        Check.end();
    }

    private static void isOne(String what, byte[] row) {
        Run run = new Run("a public key: " + what);
        run.key(SECRET);
        run.message(TEXT);
        run.tape(row);
        run.gives(0, "agree", 0);
        run.gives(0, "count", 0);
        run.resultIs(Reference.bytes32(Reference.times(SECRET, Reference.pointOf(row))[0]));
        run.verdict(Arrays.equals(row, GOOD) ? 0 : 4, row, SIGNATURE);
    }

    private static void isOne(String what, BigInteger x, BigInteger y) {
        isOne(what, Reference.publicBytes(x, y));
    }

    private static void isNone(String what, byte[] row) {
        Run run = new Run("no public key: " + what);
        run.key(SECRET);
        run.message(TEXT);
        run.call("sign", 0);
        run.tape(row);
        run.throwsJust(IllegalArgumentException.class, "agree", 0);
        run.tapeIs(row);
        if (row.length == 65) {
            run.verdict(3, row, SIGNATURE);
            run.gives(1, "count", 8);
        }
        run.verdict(0, GOOD, SIGNATURE);
    }

    private static void isNone(String what, BigInteger x, BigInteger y) {
        isNone(what, Reference.publicBytes(x, y));
    }

    private static void bothSidesOf65Bytes() {
        isNone("nothing", new byte[0]);
        isNone("4 alone", new byte[] {4});
        isNone("without y", Arrays.copyOf(GOOD, 33));
        isNone("64 bytes", Arrays.copyOf(GOOD, 64));
        isNone("64 bytes without the 4", Arrays.copyOfRange(GOOD, 1, 65));
        isOne("65 bytes", GOOD);
        isNone("a byte 0 behind", Arrays.copyOf(GOOD, 66));
        isNone("a byte 0 before", Hand.join(new byte[1], GOOD));
        isNone("two of them", Hand.join(GOOD, GOOD));
    }

    // 2 and 3 begin short forms of other standards, 6 and 7 mixed ones; here they are none.
    private static void theFirstByteIsFour() {
        for (int first = 0; first < 256; first++) {
            byte[] row = GOOD.clone();
            row[0] = (byte) first;
            if (first == 4) {
                isOne("first byte 4", row);
            } else {
                isNone("first byte " + first, row);
            }
        }
        byte[] shortForm = Arrays.copyOf(GOOD, 33);
        shortForm[0] = (byte) (GOOD[64] & 1 | 2);
        isNone("the short form", shortForm);
    }

    // 0 is the x of a point, so that the prime would be one if it were taken modulo the prime.
    private static void xBelowThePrime() {
        BigInteger zeroY = Reference.yOf(BigInteger.ZERO);
        isOne("x = 0", BigInteger.ZERO, zeroY);
        isOne("x = 0, the other y", BigInteger.ZERO, Reference.P.subtract(zeroY));
        isNone("x = p", Reference.P, zeroY);
        isNone("x = p, the other y", Reference.P, Reference.P.subtract(zeroY));
        BigInteger highest = Reference.P.subtract(BigInteger.valueOf(3));
        isOne("x = p - 3", highest, Reference.yOf(highest));
        for (int bits = 0; bits < 256; bits += 5) {
            BigInteger x = withPoint(BigInteger.ONE.shiftLeft(bits));
            isOne("x = " + x.toString(16), x, Reference.yOf(x));
            if (x.compareTo(ROOM) < 0) {
                isNone("x = p + " + x.toString(16), Reference.P.add(x), Reference.yOf(x));
            }
            BigInteger below = withPoint(Reference.P.subtract(BigInteger.ONE.shiftLeft(bits)));
            if (below.compareTo(Reference.P) < 0) {
                isOne("x = " + below.toString(16), below, Reference.yOf(below));
            }
        }
        BigInteger last = ROOM.subtract(BigInteger.TWO);
        isOne("x = 2^256 - 2 - p", last, Reference.yOf(last));
        isNone("x = 2^256 - 2", last.add(Reference.P), Reference.yOf(last));
    }

    private static BigInteger withPoint(BigInteger x) {
        BigInteger one = x;
        while (Reference.yOf(one.mod(Reference.P)) == null) {
            one = one.add(BigInteger.ONE);
        }
        return one;
    }

    // 1 is the y of a point, and so is p - 1; 0 is none.
    private static void yBelowThePrime() {
        for (String[] pair : LOW_Y) {
            BigInteger x = Reference.hex(pair[0]);
            BigInteger y = Reference.hex(pair[1]);
            isOne("y = " + pair[1], x, y);
            isOne("y = p - " + pair[1], x, Reference.P.subtract(y));
            isNone("y = p + " + pair[1], x, Reference.P.add(y));
        }
        BigInteger x = Reference.hex(LOW_Y[0][0]);
        isNone("y = p", x, Reference.P);
        isNone("y = 0", x, BigInteger.ZERO);
    }

    private static void bothAboveThePrime() {
        BigInteger highest = BigInteger.ONE.shiftLeft(256).subtract(BigInteger.ONE);
        isNone("all bits", highest, highest);
        isNone("p and p", Reference.P, Reference.P);
        isNone("x all bits", highest, Reference.BASE[1]);
        isNone("y all bits", Reference.BASE[0], highest);
    }

    private static void ofAPointOfTheCurve() {
        for (int at = 1; at < 65; at++) {
            for (int with : new int[] {1, 128}) {
                byte[] row = GOOD.clone();
                row[at] ^= (byte) with;
                isNone("byte " + at + " changed by " + with, row);
            }
        }
        BigInteger[] point = Reference.pointOf(GOOD);
        isOne("the negative", point[0], Reference.P.subtract(point[1]));
        isOne("the base", Reference.BASE[0], Reference.BASE[1]);
        isOne("the base's negative", Reference.BASE[0], Reference.P.subtract(Reference.BASE[1]));
        isNone("y is the order's rest", point[0], Reference.N.subtract(point[1].mod(Reference.N)));
        BigInteger none = BigInteger.ONE;
        while (Reference.yOf(none) != null) {
            none = none.add(BigInteger.ONE);
        }
        isNone("an x that no point has", none, Reference.yOf(BigInteger.ZERO));
    }

    // Points of curves whose b is a little higher or lower, by one bit: as it is, and in other forms that a
    // program may hold its numbers in.
    private static void ofNoCurveBesideIt() {
        BigInteger two = BigInteger.TWO;
        BigInteger[] forms = {BigInteger.ONE, two.modPow(BigInteger.valueOf(-256), Reference.P),
            two.modPow(BigInteger.valueOf(-261), Reference.P)};
        for (BigInteger form : forms) {
            for (int bit = 0; bit < 256; bit += 3) {
                BigInteger step = BigInteger.ONE.shiftLeft(bit).multiply(form).mod(Reference.P);
                isNone("b is higher by bit " + bit, beside(step));
                isNone("b is lower by bit " + bit, beside(Reference.P.subtract(step)));
            }
        }
    }

    private static byte[] beside(BigInteger step) {
        BigInteger x = BigInteger.ONE;
        BigInteger y = null;
        while (y == null) {
            x = x.add(BigInteger.ONE);
            y = Reference.yOf(x, Reference.B.add(step));
        }
        return Reference.publicBytes(x, y);
    }

    private static void theNeutralPointIsNone() {
        isNone("65 bytes 0", new byte[65]);
        isNone("4, 0, 0", BigInteger.ZERO, BigInteger.ZERO);
        isNone("one byte 0", new byte[1]);
    }

    private static void highestFirst() {
        byte[] row = GOOD.clone();
        for (int i = 0; i < 32; i++) {
            row[1 + i] = GOOD[32 - i];
            row[33 + i] = GOOD[64 - i];
        }
        isNone("the lowest first", row);
        isNone("y before x", Hand.join(new byte[] {4}, Arrays.copyOfRange(GOOD, 33, 65), Arrays.copyOfRange(GOOD, 1, 33)));
    }
}
