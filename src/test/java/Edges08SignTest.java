import java.math.BigInteger;
import java.util.NoSuchElementException;

/**
 * Promise 8 at its edges: "THE RESULT is the KEY's SIGNATURE of THE MESSAGE: its length." "No such KEY."
 * That none of the first 100 nonces gives r and s that are not 0 is tested in EdgesNoncesTest.
 */
public final class Edges08SignTest {
    private static final BigInteger SECRET =
        Reference.hex("c9afa9d845ba75166b5c215767b1d6934e50c3db36e89b127b8a622b120f6721");
    private static final BigInteger LAST = Reference.N.subtract(BigInteger.ONE);

    public static void main(String[] args) {
        bothSidesOfTheNumbers();
        numbersOfAFullRow();
        formsOfR();
        formsOfS();
        aNonceThatIsTooHigh();
        aDigestThatIsTooHigh();
        firstAndLastKey();
        highSIsKept();
        theSameAgain();
        changesNothingElse();
        Check.end();
    }

    private static void bothSidesOfTheNumbers() {
        Run run = new Run("numbers of keys");
        run.refuses(NoSuchElementException.class, "sign", 0);
        for (int keys = 1; keys <= 3; keys++) {
            run.key(SECRET.add(BigInteger.valueOf(keys)));
            run.refuses(NoSuchElementException.class, "sign", -1);
            run.call("sign", 0);
            run.call("sign", keys - 1);
            run.refuses(NoSuchElementException.class, "sign", keys);
            run.gives(2 * keys, "count", 4);
        }
        for (int key : new int[] {Integer.MIN_VALUE, Integer.MAX_VALUE, 100, 256, 65536}) {
            run.refuses(NoSuchElementException.class, "sign", key);
        }
        run.gives(6, "count", 4);
        run.resultIs(Reference.sign(SECRET.add(BigInteger.valueOf(3)), new byte[0]));
    }

    private static void numbersOfAFullRow() {
        Run run = new Run("100 keys");
        run.keysUpTo(100);
        run.refuses(NoSuchElementException.class, "sign", 100);
        run.call("sign", 99);
        run.call("result", 10);
        run.call("result", 60);
        run.gives(1, "count", 4);
    }

    // The message is this number in four bytes; length and first bytes of r or s are known of it.
    private static void hasForm(int message, boolean ofS, int length, int first, int next) {
        Run run = new Run("message " + message);
        run.key(SECRET);
        byte[] text = Reference.bytes32(BigInteger.valueOf(message));
        text = java.util.Arrays.copyOfRange(text, 28, 32);
        run.message(text);
        byte[] due = Reference.sign(SECRET, text);
        run.gives(due.length, "sign", 0);
        int at = ofS ? 4 + due[3] : 2;
        run.gives(2, "result", at);
        run.gives(length, "result", at + 1);
        run.gives(first, "result", at + 2);
        if (next >= 0) {
            run.gives(next, "result", at + 3);
        }
        run.gives(48, "result", 0);
        run.gives(due.length - 2, "result", 1);
        run.resultIs(due);
        run.verdict(0, Reference.publicKey(SECRET), due);
    }

    // These messages were searched for.
    private static void formsOfR() {
        hasForm(120163, false, 33, 0, 128);
        hasForm(120294, false, 33, 0, 255);
        hasForm(120081, false, 32, 127, -1);
        hasForm(120147, false, 32, 1, -1);
        hasForm(207620, false, 32, 0, 128);
        hasForm(120447, false, 31, 127, -1);
        hasForm(154204, false, 31, 1, -1);
        hasForm(344949, false, 31, 0, -1);
        hasForm(144929, false, 30, 45, -1);
        hasForm(80145, false, 29, 9, -1);
    }

    private static void formsOfS() {
        hasForm(108, true, 33, 0, 128);
        hasForm(120292, true, 33, 0, 255);
        hasForm(120135, true, 32, 127, -1);
        hasForm(120222, true, 32, 1, -1);
        hasForm(135537, true, 32, 0, 128);
        hasForm(157289, true, 31, 127, -1);
        hasForm(176322, true, 31, 1, -1);
        hasForm(104422, true, 31, 0, -1);
        hasForm(125646, true, 30, 82, -1);
    }

    private static void isSigned(String what, BigInteger secret, byte[] message) {
        Run run = new Run(what);
        run.key(secret);
        run.message(message);
        byte[] due = Reference.sign(secret, message);
        run.gives(due.length, "sign", 0);
        run.resultIs(due);
        run.gives(1, "count", 4);
        run.verdict(0, Reference.publicKey(secret), due);
    }

    // The first candidate of RFC 6979 for this message is the order or above.
    private static void aNonceThatIsTooHigh() {
        byte[] message = Hand.text("wv[vnX");
        Check.same("refused candidates", Reference.refused(SECRET, message), 1);
        isSigned("a nonce too high", SECRET, message);
    }

    private static void aDigestThatIsTooHigh() {
        byte[] message = Hand.bytes("0000000003c25d75");
        Check.isTrue("the digest is above the order",
            Reference.number(Reference.digest(message)).compareTo(Reference.N) > 0);
        isSigned("a digest too high", SECRET, message);
        isSigned("a digest too high, key n - 1", LAST, message);
    }

    private static void firstAndLastKey() {
        isSigned("key 1, no message", BigInteger.ONE, new byte[0]);
        isSigned("key n - 1, no message", LAST, new byte[0]);
        isSigned("key 1", BigInteger.ONE, Hand.text("sample"));
        isSigned("key n - 1", LAST, Hand.text("sample"));
    }

    // The standard asks for no s below the half of the order.
    private static void highSIsKept() {
        BigInteger s = Reference.numbersOf(Reference.sign(SECRET, Hand.text("sample")))[1];
        Check.isTrue("s is above the half", s.compareTo(Reference.N.shiftRight(1)) > 0);
        isSigned("a high s", SECRET, Hand.text("sample"));
        s = Reference.numbersOf(Reference.sign(SECRET, Hand.text("test")))[1];
        Check.isTrue("s is below the half", s.compareTo(Reference.N.shiftRight(1)) < 0);
        isSigned("a low s", SECRET, Hand.text("test"));
    }

    private static void theSameAgain() {
        Run run = new Run("one message, signed again");
        run.key(SECRET);
        run.key(SECRET);
        run.message(Hand.text("again"));
        byte[] due = Reference.sign(SECRET, Hand.text("again"));
        for (int i = 1; i <= 4; i++) {
            run.gives(due.length, "sign", i % 2);
            run.gives(i, "count", 4);
            run.resultIs(due);
        }
    }

    private static void changesNothingElse() {
        Run run = new Run("sign and the rest");
        run.key(SECRET);
        run.message(Hand.text("kept"));
        run.tape(Hand.text("tape"));
        run.call("sign", 0);
        run.tapeIs(Hand.text("tape"));
        run.messageIs(Hand.text("kept"));
        run.gives(1, "count", 1);
        run.showsAll();
    }
}
