import java.math.BigInteger;

/** Promise 11 at its edges: "Byte i of THE RESULT, 0 .. 255." "There is none." */
public final class Edges11ResultTest {
    private static final BigInteger SECRET = BigInteger.valueOf(123581321);
    private static final byte[] PUBLIC = Reference.publicKey(SECRET);

    public static void main(String[] args) {
        nothingAtFirst();
        bothSidesOfAPublicKey();
        bothSidesOfASecret();
        bothSidesOfSignatures();
        shorterOnesHideLongerOnes();
        bytesFrom0To255();
        refusedCallsLeaveIt();
        changesNothing();
        Check.end();
    }

    private static void placesAre(Run run, int length) {
        run.gives(length, "count", 3);
        run.refuses(IndexOutOfBoundsException.class, "result", -1);
        run.call("result", 0);
        run.call("result", length - 1);
        for (int i = length; i <= 73; i++) {
            run.throwsJust(IndexOutOfBoundsException.class, "result", i);
        }
        run.refuses(IndexOutOfBoundsException.class, "result", length);
        for (int i : new int[] {Integer.MIN_VALUE, Integer.MAX_VALUE, 256, 65536, -256, -2}) {
            run.refuses(IndexOutOfBoundsException.class, "result", i);
        }
    }

    private static void nothingAtFirst() {
        Run run = new Run("no result");
        for (int i : new int[] {0, 1, -1, 31, 64, 71, Integer.MIN_VALUE, Integer.MAX_VALUE}) {
            run.refuses(IndexOutOfBoundsException.class, "result", i);
        }
        run.key(SECRET);
        run.message(Hand.text("still none"));
        run.refuses(IndexOutOfBoundsException.class, "result", 0);
    }

    private static void bothSidesOfAPublicKey() {
        Run run = new Run("a public key");
        run.key(SECRET);
        run.call("open", 0);
        placesAre(run, 65);
        run.resultIs(PUBLIC);
    }

    private static void bothSidesOfASecret() {
        Run run = new Run("a secret");
        run.key(SECRET);
        run.tape(PUBLIC);
        run.call("agree", 0);
        placesAre(run, 32);
        run.resultIs(Reference.bytes32(Reference.times(SECRET, Reference.pointOf(PUBLIC))[0]));
    }

    // Signatures differ in length: all of 70 to 72 bytes are met.
    private static void bothSidesOfSignatures() {
        boolean[] seen = new boolean[73];
        for (int i = 0; i < 12; i++) {
            byte[] due = Reference.sign(SECRET, new byte[i]);
            if (due.length < 73 && !seen[due.length]) {
                seen[due.length] = true;
                Run run = new Run("a signature of " + due.length);
                run.key(SECRET);
                run.message(new byte[i]);
                run.call("sign", 0);
                placesAre(run, due.length);
                run.resultIs(due);
            }
        }
        Check.isTrue("70, 71 and 72 bytes were met", seen[70] && seen[71] && seen[72]);
    }

    private static void shorterOnesHideLongerOnes() {
        Run run = new Run("longer ones before");
        run.key(SECRET);
        run.call("sign", 0);
        run.call("open", 0);
        run.refuses(IndexOutOfBoundsException.class, "result", 65);
        run.resultIs(PUBLIC);
        run.call("back", -1, 0);
        run.call("agree", 0);
        run.refuses(IndexOutOfBoundsException.class, "result", 32);
        run.call("open", 0);
        run.resultIs(PUBLIC);
        run.refuses(IndexOutOfBoundsException.class, "result", 65);
    }

    // Bytes above 127 are numbers above 127: the public keys here have all that matter.
    private static void bytesFrom0To255() {
        boolean[] seen = new boolean[256];
        for (int i = 1; i <= 40; i++) {
            byte[] due = Reference.publicKey(BigInteger.valueOf(i));
            Run run = new Run("the bytes of public key " + i);
            run.key(BigInteger.valueOf(i));
            run.call("open", 0);
            run.resultIs(due);
            for (byte one : due) {
                seen[one & 255] = true;
            }
        }
        for (int one : new int[] {0, 1, 127, 128, 254, 255}) {
            Check.isTrue("byte " + one + " was met", seen[one]);
        }
    }

    private static void refusedCallsLeaveIt() {
        Run run = new Run("refused calls");
        run.key(SECRET);
        run.call("open", 0);
        run.throwsJust(java.util.NoSuchElementException.class, "open", 1);
        run.throwsJust(java.util.NoSuchElementException.class, "sign", 1);
        run.throwsJust(java.util.NoSuchElementException.class, "agree", 1);
        run.throwsJust(IllegalArgumentException.class, "agree", 0);
        run.throwsJust(IllegalArgumentException.class, "verify");
        run.throwsJust(IllegalArgumentException.class, "key");
        run.throwsJust(IndexOutOfBoundsException.class, "back", 65, 255);
        run.resultIs(PUBLIC);
        run.showsAll();
    }

    private static void changesNothing() {
        Run run = new Run("result and the rest");
        run.key(SECRET);
        run.message(Hand.text("kept"));
        run.call("open", 0);
        run.tape(Hand.text("tape"));
        for (int i = 0; i < 65; i++) {
            run.gives(PUBLIC[i] & 255, "result", i);
            run.gives(PUBLIC[i] & 255, "result", i);
        }
        run.tapeIs(Hand.text("tape"));
        run.messageIs(Hand.text("kept"));
        run.showsAll();
    }
}
