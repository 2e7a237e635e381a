import java.math.BigInteger;
import java.util.Arrays;

/** Promise 7 at its edges: "THE MESSAGE is the TAPE: its length." It takes the tape, be it empty, and never throws. */
public final class Edges07MessageTest {
    private static final BigInteger SECRET = BigInteger.valueOf(602214);

    public static void main(String[] args) {
        anEmptyTape();
        lengthsRoundTheBlocksOfTheDigest();
        lengthsRoundPowersOfTwo();
        aMessageReplacesTheLast();
        laterCallsLeaveIt();
        changesNothingElse();
        Check.end();
    }

    private static byte[] row(int length) {
        byte[] row = new byte[length];
        for (int i = 0; i < length; i++) {
            row[i] = (byte) (i * 31 + length + (i >> 8));
        }
        return row;
    }

    private static void isMessage(int length) {
        Run run = new Run("a message of " + length + " bytes");
        run.key(SECRET);
        run.tape(row(length));
        run.gives(length, "message");
        run.gives(0, "count", 0);
        run.gives(length, "count", 2);
        run.call("sign", 0);
        run.resultIs(Reference.sign(SECRET, row(length)));
    }

    private static void anEmptyTape() {
        isMessage(0);
        Run run = new Run("empty after a message");
        run.message(Hand.text("gone"));
        run.gives(0, "message");
        run.gives(0, "count", 2);
        run.messageIs(new byte[0]);
        run.gives(0, "message");
        run.messageIs(new byte[0]);
    }

    private static void lengthsRoundTheBlocksOfTheDigest() {
        for (int block = 0; block <= 4; block++) {
            for (int length : new int[] {1, 54, 55, 56, 57, 62, 63, 64}) {
                isMessage(64 * block + length);
            }
        }
    }

    private static void lengthsRoundPowersOfTwo() {
        for (int length : new int[] {255, 256, 257, 1023, 1024, 1025, 4095, 4096, 4097, 8191, 8192, 8193}) {
            isMessage(length);
        }
    }

    private static void aMessageReplacesTheLast() {
        Run run = new Run("messages in a row");
        run.key(SECRET);
        for (int length : new int[] {100, 3, 64, 0, 65, 1}) {
            run.message(row(length));
            run.gives(length, "count", 2);
            run.messageIs(row(length));
        }
    }

    private static void laterCallsLeaveIt() {
        byte[] text = Hand.text("the message");
        Run run = new Run("calls after message");
        run.key(SECRET);
        run.message(text);
        byte[] other = new byte[45];
        Arrays.fill(other, (byte) 9);
        run.tape(other);
        run.messageIs(text);
        run.gives(10, "end", 10);
        run.call("open", 0);
        run.call("back", 2, 2);
        run.messageIs(text);
        run.refuses(IllegalArgumentException.class, "key");
        run.refuses(IllegalArgumentException.class, "agree", 0);
        run.messageIs(text);
        run.call("verify");
        run.call("sign", 0);
        run.key(BigInteger.TWO);
        run.messageIs(text);
        run.call("open", 0);
        run.call("back", -1, 0);
        run.call("agree", 1);
        run.messageIs(text);
        run.gives(11, "count", 2);
    }

    private static void changesNothingElse() {
        Run run = new Run("message and the rest");
        run.key(SECRET);
        run.call("open", 0);
        run.tape(row(70));
        run.gives(70, "message");
        run.resultIs(Reference.publicKey(SECRET));
        run.gives(1, "count", 1);
        run.gives(0, "count", 4);
        run.showsAll();
    }
}
