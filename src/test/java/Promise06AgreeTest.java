import java.math.BigInteger;
import java.util.Arrays;
import java.util.NoSuchElementException;
import java.util.Random;

/** Promise 6: agree. */
public final class Promise06AgreeTest {
    private static final BigInteger SMALL_Y_X =
        Reference.hex("d7325d7646cd60d80a92738ceb345f844cffaf35841022cab176f692de8de1d7");
    private static final BigInteger SMALL_Y = BigInteger.valueOf(5);

    public static void main(String[] args) {
        vectorOfTheRfc();
        bothSidesAgree();
        edgesOfTheFactor();
        edgesOfThePoint();
        leadingZeros();
        refusesOtherKeys();
        refusesNoPublicKey();
        Check.end();
    }

    // RFC 5903, 8.1
    private static void vectorOfTheRfc() {
        PrimeKeys x = new PrimeKeys();
        Hand.key(x, Reference.hex("c88f01f510d9ac3f70a292daa2316de544e9aab8afe84049c62a9c57862d1433"));
        Hand.feed(x, Hand.bytes("04"
            + "d12dfb5289c8d4f81208b70270398c342296970a0bccb74c736fc7554494bf63"
            + "56fbf3ca366cc23e8157854c13c58d6aac23f046ada30f8353e74f33039872ab"));
        x.agree(0);
        Check.same("secret of RFC 5903", Hand.result(x),
            Hand.bytes("d6840f6b42f6edafd13116e0e12565202fef8e9ece7dce03812464d04b9442de"));
    }

    private static void bothSidesAgree() {
        Random random = new Random(6);
        for (int i = 0; i < 20; i++) {
            BigInteger one = new BigInteger(255, random).add(BigInteger.ONE);
            BigInteger two = new BigInteger(255, random).add(BigInteger.ONE);
            PrimeKeys x = new PrimeKeys();
            Hand.key(x, one);
            Hand.key(x, two);
            x.open(0);
            x.back(-1, 0);
            x.agree(1);
            byte[] first = Hand.result(x);
            Check.same("length of the secret", x.count(3), 32);
            Check.same("tape after agree", x.count(0), 0);
            x.open(1);
            x.back(-1, 0);
            x.agree(0);
            Check.same("the other side's secret", Hand.result(x), first);
            isAgreed(one, Reference.times(two, Reference.BASE));
        }
    }

    private static void edgesOfTheFactor() {
        BigInteger[] point = Reference.times(BigInteger.valueOf(4711), Reference.BASE);
        for (int i = 1; i <= 36; i++) {
            isAgreed(BigInteger.valueOf(i), point);
            isAgreed(Reference.N.subtract(BigInteger.valueOf(i)), point);
            isAgreed(BigInteger.valueOf(i), Reference.BASE);
            isAgreed(Reference.N.subtract(BigInteger.valueOf(i)), Reference.negative(Reference.BASE));
        }
    }

    private static void edgesOfThePoint() {
        BigInteger factor = Reference.hex("123456789abcdef0123456789abcdef0123456789abcdef0123456789abcdef0");
        isAgreed(factor, new BigInteger[] {BigInteger.ZERO, Reference.yOf(BigInteger.ZERO)});
        isAgreed(factor, new BigInteger[] {SMALL_Y_X, SMALL_Y});
        isAgreed(factor, new BigInteger[] {SMALL_Y_X, Reference.P.subtract(SMALL_Y)});
        isAgreed(factor, highestX());
        isAgreed(factor, Reference.negative(highestX()));
    }

    private static BigInteger[] highestX() {
        BigInteger x = Reference.P.subtract(BigInteger.ONE);
        while (Reference.yOf(x) == null) {
            x = x.subtract(BigInteger.ONE);
        }
        return new BigInteger[] {x, Reference.yOf(x)};
    }

    private static void leadingZeros() {
        int found = 0;
        BigInteger[] point = null;
        for (int i = 1; i < 1000; i++) {
            point = Reference.add(point, Reference.BASE);
            if (point[0].bitLength() <= 248) {
                isAgreed(BigInteger.valueOf(i), Reference.BASE);
                found++;
            }
        }
        Check.isTrue("secrets with leading zeros were found", found > 1);
    }

    private static void isAgreed(BigInteger secret, BigInteger[] point) {
        PrimeKeys x = new PrimeKeys();
        Hand.key(x, secret);
        Hand.feed(x, Reference.publicBytes(point[0], point[1]));
        x.agree(0);
        Check.same(secret + " times " + point[0], Hand.result(x),
            Reference.bytes32(Reference.times(secret, point)[0]));
        Check.same("tape after agree", x.count(0), 0);
    }

    private static void refusesOtherKeys() {
        int[] wrong = {-1, 1, 100, Integer.MIN_VALUE, Integer.MAX_VALUE};
        for (int key : wrong) {
            PrimeKeys x = new PrimeKeys();
            Hand.key(x, BigInteger.TWO);
            x.open(0);
            Check.refuses("agree(" + key + ") without a tape", x, NoSuchElementException.class, () -> x.agree(key));
            x.back(-1, 0);
            Check.refuses("agree(" + key + ")", x, NoSuchElementException.class, () -> x.agree(key));
            x.agree(0);
            Check.same("the tape stayed", Hand.result(x),
                Reference.bytes32(Reference.times(BigInteger.valueOf(4), Reference.BASE)[0]));
        }
    }

    private static void refusesNoPublicKey() {
        byte[] good = Reference.publicKey(BigInteger.valueOf(99));
        isRefused("nothing", new byte[0]);
        isRefused("64 bytes", Arrays.copyOf(good, 64));
        isRefused("66 bytes", Arrays.copyOf(good, 66));
        isRefused("130 bytes", Hand.join(good, good));
        for (int first = 0; first < 256; first++) {
            if (first != 4) {
                byte[] row = good.clone();
                row[0] = (byte) first;
                isRefused("first byte " + first, row);
            }
        }
        for (int at = 1; at < 65; at++) {
            byte[] row = good.clone();
            row[at] ^= 1;
            isRefused("byte " + at + " changed", row);
        }
        isRefused("0, 0", Reference.publicBytes(BigInteger.ZERO, BigInteger.ZERO));
        isRefused("x and y changed over", Reference.publicBytes(Reference.BASE[1], Reference.BASE[0]));
        BigInteger highest = BigInteger.ONE.shiftLeft(256).subtract(BigInteger.ONE);
        isRefused("highest x and y", Reference.publicBytes(highest, highest));
        BigInteger x = BigInteger.valueOf(5);
        Check.isTrue("5 is an x", Reference.yOf(x) != null);
        isRefused("x that is the prime", Reference.publicBytes(Reference.P, Reference.yOf(BigInteger.ZERO)));
        isRefused("x above the prime", Reference.publicBytes(Reference.P.add(x), Reference.yOf(x)));
        Check.isTrue("5 is a y", Reference.isOnCurve(SMALL_Y_X, SMALL_Y));
        isRefused("y above the prime", Reference.publicBytes(SMALL_Y_X, Reference.P.add(SMALL_Y)));
    }

    private static void isRefused(String what, byte[] row) {
        PrimeKeys x = new PrimeKeys();
        BigInteger secret = BigInteger.valueOf(3);
        Hand.key(x, secret);
        x.open(0);
        Hand.feed(x, row);
        Check.refuses("agree with " + what, x, IllegalArgumentException.class, () -> x.agree(0));
        Hand.tapeIs("tape after " + what, x, secret, row);
    }
}
