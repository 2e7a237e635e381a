import java.math.BigInteger;
import java.security.GeneralSecurityException;
import java.security.MessageDigest;
import java.util.Arrays;
import java.util.HashMap;
import java.util.List;
import java.util.Map;
import javax.crypto.Mac;
import javax.crypto.spec.SecretKeySpec;

/** The standards once more, written with the Java library and with points as plain pairs of numbers. */
final class Reference {
    static final BigInteger P = hex("ffffffff00000001000000000000000000000000ffffffffffffffffffffffff");
    static final BigInteger N = hex("ffffffff00000000ffffffffffffffffbce6faada7179e84f3b9cac2fc632551");
    static final BigInteger B = hex("5ac635d8aa3a93e7b3ebbd55769886bc651d06b0cc53b0f63bce3c3e27d2604b");
    static final BigInteger[] BASE = {
        hex("6b17d1f2e12c4247f8bce6e563a440f277037d812deb33a0f4a13945d898c296"),
        hex("4fe342e2fe1a7f9b8ee7eb4a7c0f9e162bce33576b315ececbb6406837bf51f5")
    };
    private static final BigInteger THREE = BigInteger.valueOf(3);
    private static final Map<List<BigInteger>, BigInteger[]> PRODUCTS = new HashMap<>();

    private Reference() {
    }

    static BigInteger hex(String text) {
        return new BigInteger(text, 16);
    }

    static BigInteger number(byte[] row) {
        return new BigInteger(1, row);
    }

    static byte[] bytes32(BigInteger number) {
        byte[] row = new byte[32];
        byte[] all = number.toByteArray();
        for (int i = 0; i < 32 && i < all.length; i++) {
            row[31 - i] = all[all.length - 1 - i];
        }
        return row;
    }

    static boolean isOnCurve(BigInteger x, BigInteger y) {
        BigInteger right = x.pow(3).subtract(x.multiply(THREE)).add(B);
        return y.multiply(y).subtract(right).mod(P).signum() == 0;
    }

    /** A y for this x, or null if the curve has none. */
    static BigInteger yOf(BigInteger x) {
        return yOf(x, B);
    }

    /** The same on the curve that has this number as its b. */
    static BigInteger yOf(BigInteger x, BigInteger b) {
        BigInteger square = x.pow(3).subtract(x.multiply(THREE)).add(b).mod(P);
        BigInteger y = square.modPow(P.add(BigInteger.ONE).shiftRight(2), P);
        return y.multiply(y).mod(P).equals(square) ? y : null;
    }

    /** The neutral point is null. */
    static BigInteger[] add(BigInteger[] a, BigInteger[] b) {
        if (a == null || b == null) {
            return a == null ? b : a;
        }
        BigInteger slope;
        if (!a[0].equals(b[0])) {
            slope = b[1].subtract(a[1]).multiply(b[0].subtract(a[0]).modInverse(P));
        } else if (a[1].equals(b[1]) && a[1].signum() != 0) {
            slope = a[0].pow(2).subtract(BigInteger.ONE).multiply(THREE).multiply(a[1].shiftLeft(1).modInverse(P));
        } else {
            return null;
        }
        BigInteger x = slope.pow(2).subtract(a[0]).subtract(b[0]).mod(P);
        return new BigInteger[] {x, slope.multiply(a[0].subtract(x)).subtract(a[1]).mod(P)};
    }

    // The same products come again and again where a state is rebuilt to be looked at.
    static BigInteger[] times(BigInteger factor, BigInteger[] point) {
        return PRODUCTS.computeIfAbsent(List.of(factor, point[0], point[1]), k -> product(factor, point));
    }

    private static BigInteger[] product(BigInteger factor, BigInteger[] point) {
        BigInteger[] sum = null;
        for (int i = factor.bitLength() - 1; i >= 0; i--) {
            sum = add(sum, sum);
            if (factor.testBit(i)) {
                sum = add(sum, point);
            }
        }
        return sum;
    }

    static BigInteger[] negative(BigInteger[] point) {
        return new BigInteger[] {point[0], P.subtract(point[1])};
    }

    static byte[] publicBytes(BigInteger x, BigInteger y) {
        return Hand.join(new byte[] {4}, bytes32(x), bytes32(y));
    }

    static byte[] publicKey(BigInteger secret) {
        BigInteger[] point = times(secret, BASE);
        return publicBytes(point[0], point[1]);
    }

    /** The point of these bytes, or null if they are no PUBLIC KEY. */
    static BigInteger[] pointOf(byte[] row) {
        if (row.length != 65 || row[0] != 4) {
            return null;
        }
        BigInteger x = number(Arrays.copyOfRange(row, 1, 33));
        BigInteger y = number(Arrays.copyOfRange(row, 33, 65));
        boolean good = x.compareTo(P) < 0 && y.compareTo(P) < 0 && isOnCurve(x, y);
        return good ? new BigInteger[] {x, y} : null;
    }

    static boolean isInRange(BigInteger number) {
        return number.signum() > 0 && number.compareTo(N) < 0;
    }

    static byte[] digest(byte[] message) {
        try {
            return MessageDigest.getInstance("SHA-256").digest(message);
        } catch (GeneralSecurityException e) {
            throw new IllegalStateException(e);
        }
    }

    static byte[] mac(byte[] key, byte[] row) {
        try {
            Mac mac = Mac.getInstance("HmacSHA256");
            mac.init(new SecretKeySpec(key, "HmacSHA256"));
            return mac.doFinal(row);
        } catch (GeneralSecurityException e) {
            throw new IllegalStateException(e);
        }
    }

    /** How many of the RFC's candidates are refused before the nonce. */
    static int refused(BigInteger secret, byte[] message) {
        return nonce(secret, message)[1].intValue();
    }

    private static BigInteger[] nonce(BigInteger secret, byte[] message) {
        byte[][] state = keyAndValue(secret, message);
        for (int refused = 0; ; refused++) {
            state[1] = mac(state[0], state[1]);
            if (isInRange(number(state[1]))) {
                return new BigInteger[] {number(state[1]), BigInteger.valueOf(refused)};
            }
            refuse(state);
        }
    }

    /** The value V of RFC 6979 after so many candidates, all of them refused. */
    static byte[] valueAfter(BigInteger secret, byte[] message, int refusals) {
        byte[][] state = keyAndValue(secret, message);
        for (int i = 0; i < refusals; i++) {
            state[1] = mac(state[0], state[1]);
            refuse(state);
        }
        return state[1];
    }

    private static byte[][] keyAndValue(BigInteger secret, byte[] message) {
        byte[] seed = Hand.join(bytes32(secret), bytes32(number(digest(message)).mod(N)));
        byte[][] state = new byte[2][32];
        Arrays.fill(state[1], (byte) 1);
        for (byte tag = 0; tag < 2; tag++) {
            state[0] = mac(state[0], Hand.join(state[1], new byte[] {tag}, seed));
            state[1] = mac(state[0], state[1]);
        }
        return state;
    }

    private static void refuse(byte[][] state) {
        state[0] = mac(state[0], Hand.join(state[1], new byte[] {0}));
        state[1] = mac(state[0], state[1]);
    }

    static byte[] sign(BigInteger secret, byte[] message) {
        BigInteger k = nonce(secret, message)[0];
        BigInteger r = times(k, BASE)[0].mod(N);
        BigInteger s = number(digest(message)).add(r.multiply(secret)).multiply(k.modInverse(N)).mod(N);
        return der(r, s);
    }

    static byte[] der(BigInteger r, BigInteger s) {
        return sequence(r.toByteArray(), s.toByteArray());
    }

    /** In DER's form, but with these bytes as the numbers, be they in due form or not. */
    static byte[] sequence(byte[] r, byte[] s) {
        byte[] body = Hand.join(new byte[] {2, (byte) r.length}, r, new byte[] {2, (byte) s.length}, s);
        return Hand.join(new byte[] {48, (byte) body.length}, body);
    }

    /** r and s, or null if the row is no SIGNATURE: it is one if writing the numbers gives the same row. */
    static BigInteger[] numbersOf(byte[] row) {
        if (row.length < 8 || row[0] != 48 || row[2] != 2) {
            return null;
        }
        int first = row[3];
        if (first < 1 || first > 33 || 4 + first + 2 > row.length) {
            return null;
        }
        int second = row[4 + first + 1];
        if (second < 1 || second > 33 || 4 + first + 2 + second != row.length) {
            return null;
        }
        BigInteger r = new BigInteger(Arrays.copyOfRange(row, 4, 4 + first));
        BigInteger s = new BigInteger(Arrays.copyOfRange(row, row.length - second, row.length));
        boolean due = r.signum() >= 0 && s.signum() >= 0 && Arrays.equals(der(r, s), row);
        return due ? new BigInteger[] {r, s} : null;
    }

    static int verify(byte[] message, byte[] publicKey, byte[] signature) {
        BigInteger[] numbers = numbersOf(signature);
        if (numbers == null) {
            return 1;
        }
        if (!isInRange(numbers[0]) || !isInRange(numbers[1])) {
            return 2;
        }
        BigInteger[] point = pointOf(publicKey);
        if (point == null) {
            return 3;
        }
        BigInteger w = numbers[1].modInverse(N);
        BigInteger u = number(digest(message)).multiply(w).mod(N);
        BigInteger v = numbers[0].multiply(w).mod(N);
        BigInteger[] sum = add(times(u, BASE), times(v, point));
        return sum != null && sum[0].mod(N).equals(numbers[0]) ? 0 : 4;
    }
}
