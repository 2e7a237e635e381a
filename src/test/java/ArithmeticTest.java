import java.lang.reflect.Constructor;
import java.lang.reflect.Field;
import java.lang.reflect.Method;
import java.math.BigInteger;
import java.util.ArrayList;
import java.util.List;
import java.util.Random;

/**
 * "Bit for bit as these standards say": a carry that goes wrong once in 2^29 numbers is met by no run of calls
 * drawn by chance, so the arithmetic inside is asked for the numbers where carries run far, and for the
 * neighbours of 0, of the modulus and of the powers of 2.
 */
public final class ArithmeticTest {
    private static final int LIMBS = 9;
    private static final int BITS = 29;
    private static final BigInteger SHIFT = BigInteger.ONE.shiftLeft(LIMBS * BITS);
    private static final int DRAWN = 60;

    private final String title;
    private final BigInteger prime;
    private final BigInteger unshift;
    private final Object modulus;
    private final Method add;
    private final Method subtract;
    private final Method multiply;
    private final Method invert;
    private final Method reduceOnce;
    private final Method isAbove;
    private final long[] answer = new long[LIMBS];

    private ArithmeticTest(String title, BigInteger prime, Object modulus) throws ReflectiveOperationException {
        this.title = title;
        this.prime = prime;
        this.modulus = modulus;
        unshift = SHIFT.modInverse(prime);
        Class<?> row = long[].class;
        add = method("add", row, row, row);
        subtract = method("subtract", row, row, row);
        multiply = method("multiply", row, row, row);
        invert = method("invert", row, row);
        reduceOnce = method("reduceOnce", row);
        isAbove = method("isAbove", row);
    }

    public static void main(String[] args) throws ReflectiveOperationException {
        int rounds = args.length > 1 ? Integer.parseInt(args[1]) : 1;
        for (int round = 0; round < rounds; round++) {
            new ArithmeticTest("the prime", Reference.P, made("Curve", "PRIME")).go(new Random(round));
            new ArithmeticTest("the order", Reference.N, made("Signer", "ORDER")).go(new Random(~round));
        }
        Check.end();
    }

    private static Object made(String owner, String words) throws ReflectiveOperationException {
        Field field = Class.forName("PrimeKeys$" + owner).getDeclaredField(words);
        field.setAccessible(true);
        Constructor<?> constructor = Class.forName("PrimeKeys$Modulus").getDeclaredConstructor(int[].class);
        constructor.setAccessible(true);
        return constructor.newInstance(field.get(null));
    }

    private Method method(String name, Class<?>... types) throws ReflectiveOperationException {
        Method method = modulus.getClass().getDeclaredMethod(name, types);
        method.setAccessible(true);
        return method;
    }

    private void go(Random random) throws ReflectiveOperationException {
        List<BigInteger> numbers = edges();
        for (int i = 0; i < DRAWN; i++) {
            numbers.add(drawn(random).mod(prime));
        }
        for (BigInteger a : numbers) {
            inverts(a);
            reduces(a);
            for (BigInteger b : numbers) {
                addsAndSubtracts(a, b);
                multiplies(a, b);
            }
        }
    }

    // Each is taken modulo the prime, as all that the methods are given.
    private List<BigInteger> edges() {
        List<BigInteger> numbers = new ArrayList<>();
        List<BigInteger> middles = new ArrayList<>(List.of(
            BigInteger.ZERO, prime.shiftRight(1), SHIFT.mod(prime), unshift, Reference.P.subtract(Reference.N)));
        for (int i = BITS; i < 256; i += BITS) {
            middles.add(BigInteger.ONE.shiftLeft(i));
            middles.add(BigInteger.ONE.shiftLeft(i).multiply(unshift));
        }
        for (BigInteger middle : middles) {
            for (int step = -2; step <= 2; step++) {
                numbers.add(middle.add(BigInteger.valueOf(step)).mod(prime));
            }
        }
        return numbers;
    }

    // Limbs with all bits alike come often, and make the carries long.
    private static BigInteger drawn(Random random) {
        BigInteger number = BigInteger.ZERO;
        for (int i = 0; i < LIMBS; i++) {
            int kind = random.nextInt(4);
            long limb = kind == 0 ? 0 : kind == 1 ? (1 << BITS) - 1 : random.nextInt(1 << BITS);
            number = number.shiftLeft(BITS).add(BigInteger.valueOf(limb));
        }
        return number;
    }

    private static long[] limbs(BigInteger number) {
        long[] row = new long[LIMBS];
        for (int i = 0; i < LIMBS; i++) {
            row[i] = number.shiftRight(BITS * i).longValue() & (1 << BITS) - 1;
        }
        return row;
    }

    private void answerIs(String what, BigInteger due, BigInteger... of) {
        BigInteger got = BigInteger.ZERO;
        boolean inForm = true;
        for (int i = LIMBS - 1; i >= 0; i--) {
            inForm &= answer[i] >> BITS == 0;
            got = got.shiftLeft(BITS).add(BigInteger.valueOf(answer[i]));
        }
        if (!inForm || !got.equals(due)) {
            Check.same(title + ": " + what + " " + List.of(of), got.toString(), due.toString());
            Check.isTrue("its limbs have 29 bits", inForm);
        }
    }

    private void addsAndSubtracts(BigInteger a, BigInteger b) throws ReflectiveOperationException {
        add.invoke(modulus, limbs(a), limbs(b), answer);
        answerIs("sum", a.add(b).mod(prime), a, b);
        subtract.invoke(modulus, limbs(a), limbs(b), answer);
        answerIs("difference", a.subtract(b).mod(prime), a, b);
    }

    private void multiplies(BigInteger a, BigInteger b) throws ReflectiveOperationException {
        multiply.invoke(modulus, limbs(a), limbs(b), answer);
        answerIs("product", a.multiply(b).multiply(unshift).mod(prime), a, b);
    }

    // In Montgomery's form, where 1 is the shift.
    private void inverts(BigInteger a) throws ReflectiveOperationException {
        invert.invoke(modulus, limbs(a.shiftLeft(LIMBS * BITS).mod(prime)), answer);
        BigInteger inverse = a.signum() == 0 ? a : a.modInverse(prime);
        answerIs("inverse", inverse.shiftLeft(LIMBS * BITS).mod(prime), a);
    }

    // For numbers of 256 bits, be they below the prime or not.
    private void reduces(BigInteger a) throws ReflectiveOperationException {
        for (BigInteger number : new BigInteger[] {a, a.add(prime), prime.subtract(a)}) {
            if (number.bitLength() <= 256) {
                System.arraycopy(limbs(number), 0, answer, 0, LIMBS);
                reduceOnce.invoke(modulus, answer);
                answerIs("reduced", number.mod(prime), number);
                boolean below = (boolean) isAbove.invoke(modulus, limbs(number));
                Check.isTrue(number + " against " + title, below == number.compareTo(prime) < 0);
            }
        }
    }
}
