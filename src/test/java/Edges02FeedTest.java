import java.math.BigInteger;

/**
 * Promise 2 at its edges: "The four bytes of each number, the highest first, come to the TAPE: its length."
 * "There is no room for 20" is tested in Promise02FeedTest, since no run of 512 calls fills the tape.
 */
public final class Edges02FeedTest {
    private static final BigInteger SECRET = BigInteger.valueOf(161803);

    public static void main(String[] args) {
        everyByteHasItsPlace();
        extremeNumbers();
        comesBehindWhatIsThere();
        everyFeedOfARunHasRoom();
        changesNothingElse();
        Check.end();
    }

    private static void everyByteHasItsPlace() {
        for (int at = 0; at < 20; at++) {
            for (int bits : new int[] {1, 0x7f, 0x80, 0xff}) {
                Run run = new Run("byte " + at + " is " + bits);
                int[] words = new int[5];
                words[at / 4] = bits << 24 - 8 * (at % 4);
                run.gives(20, "feed", words);
                byte[] due = new byte[20];
                due[at] = (byte) bits;
                run.tapeIs(due);
            }
        }
    }

    private static void extremeNumbers() {
        Run run = new Run("extreme numbers");
        run.gives(20, "feed", Integer.MIN_VALUE, Integer.MAX_VALUE, -1, 0, 1);
        run.gives(40, "feed", -256, 255, 256, -257, 65536);
        run.tapeIs(Hand.bytes("800000007fffffffffffffff0000000000000001"
            + "ffffff00000000ff00000100fffffeff00010000"));
    }

    private static void comesBehindWhatIsThere() {
        for (int length = 0; length <= 20; length++) {
            Run run = new Run("feed on " + length + " bytes");
            run.gives(20, "feed", -1, -1, -1, -1, -1);
            run.gives(length, "end", length);
            run.gives(length + 20, "feed", 1, 2, 3, 4, 5);
            byte[] first = new byte[length];
            java.util.Arrays.fill(first, (byte) 255);
            run.tapeIs(Hand.join(first, Hand.bytes("0000000100000002000000030000000400000005")));
        }
    }

    private static void everyFeedOfARunHasRoom() {
        Run run = new Run("512 feeds");
        for (int i = 1; i <= 512; i++) {
            run.gives(20 * i, "feed", i, -i, 0, 1 << i, ~i);
        }
    }

    private static void changesNothingElse() {
        Run run = new Run("feed and the rest");
        run.key(SECRET);
        run.message(Hand.text("kept"));
        run.call("sign", 0);
        run.gives(20, "feed", 1, 1, 1, 1, 1);
        run.showsAll();
        run.messageIs(Hand.text("kept"));
        run.resultIs(Reference.sign(SECRET, Hand.text("kept")));
    }
}
