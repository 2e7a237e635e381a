import java.lang.reflect.Field;
import java.math.BigInteger;
import java.util.Arrays;

/**
 * "If none of the first 100 of these gives r and s that are not 0, both are 0." No run of calls comes there, so
 * the base is put out of action from inside: then every nonce gives an r that is 0.
 */
public final class EdgesNoncesTest {
    private static final BigInteger SECRET = BigInteger.valueOf(65537);
    private static final byte[] TEXT = Hand.text("no nonce will do");
    private static final byte[] BOTH_ZERO = Hand.bytes("3006020100020100");

    public static void main(String[] args) throws ReflectiveOperationException {
        bothAreZero();
        afterHundredNonces();
        verdictOnBothZero();
        Check.end();
    }

    // It signs once before, so that something would be left if r and s were not set to 0.
    private static PrimeKeys withoutBase() throws ReflectiveOperationException {
        PrimeKeys x = new PrimeKeys();
        Hand.key(x, SECRET);
        Hand.message(x, TEXT);
        x.sign(0);
        for (Object point : (Object[]) inside(inside(x, "curve"), "baseMultiples")) {
            Arrays.fill((long[]) inside(point, "z"), 0);
        }
        return x;
    }

    private static Object inside(Object object, String name) throws ReflectiveOperationException {
        Field field = object.getClass().getDeclaredField(name);
        field.setAccessible(true);
        return field.get(object);
    }

    private static void bothAreZero() throws ReflectiveOperationException {
        PrimeKeys x = withoutBase();
        Check.same("length of the signature", x.sign(0), 8);
        Check.same("the signature", Hand.result(x), BOTH_ZERO);
        Check.same("signatures made", x.count(4), 2);
        Check.same("result's length", x.count(3), 8);
    }

    private static void afterHundredNonces() throws ReflectiveOperationException {
        PrimeKeys x = withoutBase();
        x.sign(0);
        byte[] value = (byte[]) inside(inside(inside(x, "signer"), "nonces"), "value");
        Check.same("value after the last nonce", value, Reference.valueAfter(SECRET, TEXT, 100));
    }

    private static void verdictOnBothZero() {
        PrimeKeys x = new PrimeKeys();
        Check.same("verdict on it", Hand.verify(x, Reference.publicKey(SECRET), BOTH_ZERO), 2);
    }
}
