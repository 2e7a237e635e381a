import java.math.BigInteger;
import java.util.Arrays;

/**
 * Promise 4 at its edges: "it has not 32 bytes, or is not 1 .. n - 1", "there are 100"; and of the terms:
 * "KEYS: ... numbered from 0", "A number may be a KEY more than once".
 */
public final class Edges04KeyTest {
    private static final BigInteger ONE = BigInteger.ONE;
    private static final BigInteger LAST = Reference.N.subtract(ONE);

    public static void main(String[] args) {
        bothSidesOf32Bytes();
        bothSidesOfOne();
        bothSidesOfTheOrder();
        everyByteOfTheOrder();
        numbersFromZero();
        theSameNumberAgain();
        hundredOfOneNumber();
        bothSidesOfHundred();
        firstOfTwoExceptions();
        changesNothingElse();
        Check.end();
    }

    private static void isKey(BigInteger number) {
        Run run = new Run("key " + number.toString(16));
        run.tape(Reference.bytes32(number));
        run.gives(0, "key");
        run.gives(0, "count", 0);
        run.gives(1, "count", 1);
        run.gives(0, "open", 0);
        run.resultIs(Reference.publicKey(number));
    }

    private static void isNoKey(String what, byte[] row) {
        Run run = new Run("no key: " + what);
        run.tape(row);
        run.refuses(IllegalArgumentException.class, "key");
        run.tapeIs(row);
        run.gives(0, "count", 1);
        run.key(ONE);
        run.tape(row);
        run.refuses(IllegalArgumentException.class, "key");
        run.gives(1, "count", 1);
    }

    // Cut from a longer tape too, where bytes of it may still stand behind the end.
    private static void bothSidesOf32Bytes() {
        byte[] long64 = new byte[64];
        Arrays.fill(long64, (byte) 7);
        for (int length : new int[] {0, 1, 20, 30, 31, 33, 34, 40, 63, 64}) {
            isNoKey(length + " bytes", Arrays.copyOf(long64, length));
            Run run = new Run("cut to " + length + " bytes");
            run.tape(long64);
            run.gives(length, "end", length);
            run.refuses(IllegalArgumentException.class, "key");
            if (length > 32) {
                run.gives(32, "end", 32);
                run.gives(0, "key");
            }
        }
        isKey(Reference.number(Arrays.copyOf(long64, 32)));
        isNoKey("33 bytes, a 0 before 1", Hand.join(new byte[1], Reference.bytes32(ONE)));
        isNoKey("33 bytes, a 0 behind 1", Hand.join(Reference.bytes32(ONE), new byte[1]));
        isNoKey("31 bytes, 1", Arrays.copyOfRange(Reference.bytes32(ONE), 1, 32));
    }

    private static void bothSidesOfOne() {
        isNoKey("0", new byte[32]);
        isKey(ONE);
        isKey(BigInteger.TWO);
        for (int at = 0; at < 32; at++) {
            isKey(ONE.shiftLeft(8 * at));
        }
    }

    private static void bothSidesOfTheOrder() {
        isKey(LAST.subtract(ONE));
        isKey(LAST);
        isNoKey("n", Reference.bytes32(Reference.N));
        isNoKey("n + 1", Reference.bytes32(Reference.N.add(ONE)));
        isNoKey("the prime", Reference.bytes32(Reference.P));
        isNoKey("the highest", Reference.bytes32(ONE.shiftLeft(256).subtract(ONE)));
        isKey(ONE.shiftLeft(255).subtract(ONE));
        isKey(ONE.shiftLeft(255));
    }

    private static void everyByteOfTheOrder() {
        byte[] order = Reference.bytes32(Reference.N);
        for (int at = 0; at < 32; at++) {
            byte[] row = order.clone();
            if (order[at] != -1) {
                row[at]++;
                isNoKey("n, byte " + at + " higher", row);
                Arrays.fill(row, at + 1, 32, (byte) 0);
                isNoKey("n, byte " + at + " higher, 0 behind", row);
            }
            row = order.clone();
            if (order[at] != 0) {
                row[at]--;
                isKey(Reference.number(row));
                Arrays.fill(row, at + 1, 32, (byte) 255);
                isKey(Reference.number(row));
            }
        }
    }

    private static void numbersFromZero() {
        Run run = new Run("numbers");
        for (int i = 0; i < 10; i++) {
            run.tape(Reference.bytes32(BigInteger.valueOf(100 - i)));
            run.gives(i, "key");
            run.gives(i + 1, "count", 1);
        }
        run.gives(0, "open", 0);
        run.resultIs(Reference.publicKey(BigInteger.valueOf(100)));
        run.gives(0, "open", 9);
        run.resultIs(Reference.publicKey(BigInteger.valueOf(91)));
        run.refuses(java.util.NoSuchElementException.class, "open", 10);
    }

    private static void theSameNumberAgain() {
        for (BigInteger number : new BigInteger[] {ONE, LAST, BigInteger.valueOf(31415)}) {
            Run run = new Run("again " + number.toString(16));
            run.key(number);
            run.key(number);
            run.key(BigInteger.TEN);
            run.key(number);
            run.gives(4, "count", 1);
            for (int key : new int[] {0, 1, 3}) {
                run.gives(0, "open", key);
                run.resultIs(Reference.publicKey(number));
            }
            run.showsAll();
        }
    }

    private static void hundredOfOneNumber() {
        Run run = new Run("one number 100 times");
        for (int i = 0; i < 100; i++) {
            run.tape(Reference.bytes32(LAST));
            run.gives(i, "key");
        }
        run.gives(100, "count", 1);
        run.gives(0, "open", 99);
        run.gives(4, "result", 0);
        run.tape(Reference.bytes32(LAST));
        run.refuses(IllegalStateException.class, "key");
    }

    private static void bothSidesOfHundred() {
        Run run = new Run("100 keys");
        run.keysUpTo(98);
        run.call("back", 31, 200);
        run.gives(98, "key");
        run.gives(99, "count", 1);
        run.refuses(java.util.NoSuchElementException.class, "open", 99);
        run.call("back", 31, 201);
        run.gives(99, "key");
        run.gives(100, "count", 1);
        run.gives(32, "back", 31, 202);
        run.refuses(IllegalStateException.class, "key");
        run.refuses(IllegalStateException.class, "key");
        run.gives(32, "count", 0);
        run.gives(100, "count", 1);
        run.refuses(java.util.NoSuchElementException.class, "open", 100);
        run.gives(0, "open", 99);
        // A full row of keys hinders nothing else.
        run.gives(32, "message");
        run.call("sign", 99);
        run.showsAll();
    }

    private static void firstOfTwoExceptions() {
        Run run = new Run("100 keys and no key on the tape");
        run.keysUpTo(100);
        run.refuses(IllegalArgumentException.class, "key");
        run.tape(new byte[32]);
        run.refuses(IllegalArgumentException.class, "key");
        run.tape(Reference.bytes32(Reference.N));
        run.refuses(IllegalArgumentException.class, "key");
        run.tape(Arrays.copyOf(Reference.bytes32(LAST), 31));
        run.refuses(IllegalArgumentException.class, "key");
        run.tape(Arrays.copyOf(Reference.bytes32(LAST), 33));
        run.refuses(IllegalArgumentException.class, "key");
        run.tape(Reference.bytes32(LAST));
        run.refuses(IllegalStateException.class, "key");
        run.tape(Reference.bytes32(ONE));
        run.refuses(IllegalStateException.class, "key");
    }

    private static void changesNothingElse() {
        Run run = new Run("key and the rest");
        run.key(ONE);
        run.message(Hand.text("kept"));
        run.call("sign", 0);
        byte[] due = Reference.sign(ONE, Hand.text("kept"));
        run.tape(Reference.bytes32(LAST));
        run.gives(1, "key");
        run.resultIs(due);
        run.messageIs(Hand.text("kept"));
        run.gives(1, "count", 4);
        run.showsAll();
    }
}
