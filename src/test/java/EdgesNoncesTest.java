import java.lang.reflect.Array;
import java.lang.reflect.Field;
import java.math.BigInteger;
import java.util.Arrays;

/**
 * "If none of the first 100 of these gives r and s that are not 0, both are 0." No run of calls comes there, so
 * the multiples of the base are changed from inside: all are the neutral point, then every nonce gives an r that
 * is 0; or all are the base itself, then every nonce gives one and the same r, and a digest can be had that
 * makes every s 0.
 */
public final class EdgesNoncesTest {
    private static final BigInteger SECRET = BigInteger.valueOf(65537);
    private static final byte[] TEXT = Hand.text("no nonce will do");
    private static final byte[] BOTH_ZERO = Hand.bytes("3006020100020100");

    public static void main(String[] args) throws ReflectiveOperationException {
        bothAreZero();
        bothAreZeroIfOnlySIs();
        afterHundredNonces();
        verdictOnBothZero();
        Check.end();
    }

    // It signs once before, so that something would be left if r and s were not set to 0.
    private static PrimeKeys signing() {
        PrimeKeys x = new PrimeKeys();
        Hand.key(x, SECRET);
        Hand.message(x, TEXT);
        x.sign(0);
        return x;
    }

    private static Object[] multiples(PrimeKeys x) throws ReflectiveOperationException {
        return (Object[]) inside(inside(x, "curve"), "baseMultiples");
    }

    private static PrimeKeys withoutBase() throws ReflectiveOperationException {
        PrimeKeys x = signing();
        for (Object point : multiples(x)) {
            Arrays.fill((long[]) inside(point, "z"), 0);
        }
        return x;
    }

    private static PrimeKeys withOneR() throws ReflectiveOperationException {
        PrimeKeys x = signing();
        Object[] points = multiples(x);
        for (int i = 0; i < points.length; i++) {
            for (String row : new String[] {"x", "y", "z"}) {
                copy(inside(points[1], row), inside(points[i], row));
            }
        }
        return x;
    }

    private static void copy(Object from, Object to) {
        System.arraycopy(from, 0, to, 0, Array.getLength(to));
    }

    private static Object inside(Object object, String name) throws ReflectiveOperationException {
        Field field = object.getClass().getDeclaredField(name);
        field.setAccessible(true);
        return field.get(object);
    }

    private static void bothAreZero() throws ReflectiveOperationException {
        PrimeKeys x = withoutBase();
        Check.same("length of the signature", x.sign(0), 8);
        Check.same("the signature", Hand.result(x), BOTH_ZERO);
        Check.same("signatures made", x.count(4), 2);
        Check.same("result's length", x.count(3), 8);
    }

    // With the base in place of each multiple, every nonce stands for 64 digits that are 1.
    private static void bothAreZeroIfOnlySIs() throws ReflectiveOperationException {
        BigInteger ones = Reference.hex("1".repeat(64));
        BigInteger r = Reference.times(ones.mod(Reference.N), Reference.BASE)[0].mod(Reference.N);
        BigInteger digest = r.multiply(SECRET).negate().mod(Reference.N);
        PrimeKeys x = withOneR();
        copy(Reference.bytes32(digest), inside(x, "messageDigest"));
        Check.same("length of the signature, if s is 0", x.sign(0), 8);
        Check.same("the signature, if s is 0", Hand.result(x), BOTH_ZERO);
        copy(Reference.bytes32(digest.add(BigInteger.ONE)), inside(x, "messageDigest"));
        x.sign(0);
        byte[] bytesOfR = Arrays.copyOfRange(Hand.result(x), 4, 4 + r.toByteArray().length);
        Check.same("r, if s is not 0", bytesOfR, r.toByteArray());
    }

    private static void afterHundredNonces() throws ReflectiveOperationException {
        PrimeKeys x = withoutBase();
        x.sign(0);
        byte[] value = (byte[]) inside(inside(inside(x, "signer"), "nonces"), "value");
        Check.same("value after the last nonce", value, Reference.valueAfter(SECRET, TEXT, 100));
    }

    private static void verdictOnBothZero() {
        PrimeKeys x = new PrimeKeys();
        Check.same("verdict on it", Hand.verify(x, Reference.publicKey(SECRET), BOTH_ZERO), 2);
    }
}
