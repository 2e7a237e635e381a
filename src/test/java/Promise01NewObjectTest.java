import java.math.BigInteger;
import java.util.NoSuchElementException;

/** Promise 1: a new object has no keys, and all is empty. */
public final class Promise01NewObjectTest {
    public static void main(String[] args) {
        countsAreZero();
        nothingIsThere();
        messageIsEmpty();
        objectsAreApart();
        Check.end();
    }

    private static void countsAreZero() {
        PrimeKeys x = new PrimeKeys();
        for (int what = 0; what < 10; what++) {
            Check.same("count(" + what + ") of a new object", x.count(what), 0);
        }
    }

    private static void nothingIsThere() {
        PrimeKeys x = new PrimeKeys();
        Check.refuses("result(0)", x, IndexOutOfBoundsException.class, () -> x.result(0));
        Check.refuses("open(0)", x, NoSuchElementException.class, () -> x.open(0));
        Check.refuses("agree(0)", x, NoSuchElementException.class, () -> x.agree(0));
        Check.refuses("sign(0)", x, NoSuchElementException.class, () -> x.sign(0));
        Check.refuses("key()", x, IllegalArgumentException.class, x::key);
        Check.refuses("verify()", x, IllegalArgumentException.class, x::verify);
        Check.same("back(-1, 0) of no result", x.back(-1, 0), 0);
        Check.same("end(0)", x.end(0), 0);
        Check.same("message()", x.message(), 0);
    }

    private static void messageIsEmpty() {
        PrimeKeys x = new PrimeKeys();
        BigInteger secret = BigInteger.valueOf(77);
        Hand.key(x, secret);
        x.sign(0);
        Check.same("signature of the first message", Hand.result(x), Reference.sign(secret, new byte[0]));
    }

    private static void objectsAreApart() {
        PrimeKeys x = new PrimeKeys();
        PrimeKeys y = new PrimeKeys();
        Hand.key(x, BigInteger.TEN);
        x.sign(0);
        Hand.feed(x, new byte[30]);
        Check.same("sight of an object beside one that is used", Hand.sight(y), Hand.sight(new PrimeKeys()));
    }
}
