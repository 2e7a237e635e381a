import java.math.BigInteger;
import java.util.Arrays;
import java.util.NoSuchElementException;

/**
 * Promise 6 at its edges: "THE RESULT is the x, 32 bytes, of the KEY times the TAPE's point." "No such KEY."
 * "The TAPE is no PUBLIC KEY." What is a PUBLIC KEY stands in EdgesPublicKeyTest.
 */
public final class Edges06AgreeTest {
    private static final BigInteger SECRET = BigInteger.valueOf(662607);
    private static final BigInteger LAST = Reference.N.subtract(BigInteger.ONE);
    private static final byte[] PUBLIC = Reference.publicKey(BigInteger.valueOf(299792));

    public static void main(String[] args) {
        bothSidesOfTheNumbers();
        numbersOfAFullRow();
        firstOfTwoExceptions();
        bothSidesOf65Bytes();
        thirtyTwoBytesAlways();
        firstAndLastKey();
        itsOwnPublicKey();
        refusedOnesLeaveTheNextRight();
        changesNothingElse();
        Check.end();
    }

    private static void bothSidesOfTheNumbers() {
        Run run = new Run("numbers of keys");
        run.tape(PUBLIC);
        run.refuses(NoSuchElementException.class, "agree", 0);
        for (int keys = 1; keys <= 2; keys++) {
            run.key(SECRET.add(BigInteger.valueOf(keys)));
            run.tape(PUBLIC);
            run.refuses(NoSuchElementException.class, "agree", -1);
            run.refuses(NoSuchElementException.class, "agree", keys);
            run.gives(0, "agree", keys - 1);
            run.gives(0, "count", 0);
            run.tape(PUBLIC);
            run.gives(0, "agree", 0);
        }
        run.tape(PUBLIC);
        for (int key : new int[] {Integer.MIN_VALUE, Integer.MAX_VALUE, 100, 256, 65536}) {
            run.refuses(NoSuchElementException.class, "agree", key);
        }
        run.tapeIs(PUBLIC);
    }

    private static void numbersOfAFullRow() {
        Run run = new Run("100 keys");
        run.keysUpTo(100);
        run.tape(PUBLIC);
        run.refuses(NoSuchElementException.class, "agree", 100);
        run.gives(0, "agree", 99);
        run.gives(32, "count", 3);
        run.call("result", 0);
        run.call("result", 31);
    }

    private static void firstOfTwoExceptions() {
        byte[] changed = PUBLIC.clone();
        changed[40] ^= 1;
        byte[][] tapes = {
            new byte[0], new byte[1], Arrays.copyOf(PUBLIC, 64), Arrays.copyOf(PUBLIC, 66), new byte[65], changed
        };
        for (byte[] tape : tapes) {
            Run run = new Run("no key and no public key, " + tape.length + " bytes");
            run.tape(tape);
            run.refuses(NoSuchElementException.class, "agree", 0);
            run.key(SECRET);
            run.tape(tape);
            run.refuses(NoSuchElementException.class, "agree", 1);
            run.refuses(NoSuchElementException.class, "agree", -1);
            run.refuses(IllegalArgumentException.class, "agree", 0);
            run.tapeIs(tape);
        }
    }

    // Cut from a longer tape too, where the missing bytes may still stand behind the end.
    private static void bothSidesOf65Bytes() {
        Run run = new Run("lengths");
        run.key(SECRET);
        for (int length : new int[] {0, 1, 32, 33, 63, 64, 66, 67, 130}) {
            run.tape(Hand.join(PUBLIC, PUBLIC));
            run.gives(length, "end", length);
            run.refuses(IllegalArgumentException.class, "agree", 0);
        }
        run.tape(Hand.join(PUBLIC, PUBLIC));
        run.gives(65, "end", 65);
        run.gives(0, "agree", 0);
        run.gives(32, "count", 3);
    }

    // 40393 times the base has an x that begins with two bytes 0.
    private static void thirtyTwoBytesAlways() {
        Run run = new Run("an x with bytes 0 before it");
        run.key(BigInteger.valueOf(40393));
        run.tape(Reference.publicBytes(Reference.BASE[0], Reference.BASE[1]));
        run.gives(0, "agree", 0);
        run.resultIs(Hand.bytes("00003f5f178aa0706c4231eb6e5495aa1642c5b8a994127c89465f22994a42f9"));
        run.refuses(IndexOutOfBoundsException.class, "result", 32);
    }

    private static void firstAndLastKey() {
        Run run = new Run("1 and n - 1");
        run.key(BigInteger.ONE);
        run.key(LAST);
        for (int key = 0; key < 2; key++) {
            run.tape(PUBLIC);
            run.gives(0, "agree", key);
            run.resultIs(Arrays.copyOfRange(PUBLIC, 1, 33));
        }
    }

    private static void itsOwnPublicKey() {
        for (BigInteger secret : new BigInteger[] {BigInteger.ONE, BigInteger.TWO, SECRET, LAST}) {
            Run run = new Run("a key and its own public key");
            run.key(secret);
            run.call("open", 0);
            run.call("back", -1, 0);
            run.gives(0, "agree", 0);
            BigInteger square = secret.multiply(secret).mod(Reference.N);
            run.resultIs(Reference.bytes32(Reference.times(square, Reference.BASE)[0]));
        }
    }

    private static void refusedOnesLeaveTheNextRight() {
        Run run = new Run("a refused point, then a good one");
        run.key(SECRET);
        run.tape(PUBLIC);
        run.gives(0, "agree", 0);
        byte[] changed = PUBLIC.clone();
        changed[64] ^= 1;
        run.tape(changed);
        run.refuses(IllegalArgumentException.class, "agree", 0);
        run.tape(PUBLIC);
        run.gives(0, "agree", 0);
        run.resultIs(Reference.bytes32(Reference.times(SECRET, Reference.pointOf(PUBLIC))[0]));
    }

    private static void changesNothingElse() {
        Run run = new Run("agree and the rest");
        run.key(SECRET);
        run.message(Hand.text("kept"));
        run.call("sign", 0);
        run.tape(PUBLIC);
        run.gives(0, "agree", 0);
        run.messageIs(Hand.text("kept"));
        run.gives(1, "count", 4);
        run.gives(1, "count", 1);
        run.showsAll();
    }
}
