import java.math.BigInteger;
import java.util.Arrays;

/** Promise 3 at its edges: "Only the first n bytes of the TAPE stay: n. ... n is not 0 .. its length." */
public final class Edges03EndTest {
    private static final BigInteger SECRET = BigInteger.valueOf(141421);
    private static final byte[] ROW = Reference.digest(Hand.text("a row of 32 bytes"));

    public static void main(String[] args) {
        everyLengthStays();
        bothSidesOfNothing();
        bothSidesOfTheLength();
        extremeNumbers();
        whatIsCutDoesNotComeBack();
        changesNothingElse();
        Check.end();
    }

    private static void everyLengthStays() {
        for (int n = 0; n <= 32; n++) {
            Run run = new Run("end(" + n + ") of 32");
            run.tape(ROW);
            run.gives(n, "end", n);
            run.gives(n, "count", 0);
            run.tapeIs(Arrays.copyOf(ROW, n));
        }
    }

    private static void bothSidesOfNothing() {
        Run run = new Run("0 and -1");
        run.gives(0, "end", 0);
        run.refuses(IllegalArgumentException.class, "end", -1);
        run.refuses(IllegalArgumentException.class, "end", 1);
        run.tape(ROW);
        run.refuses(IllegalArgumentException.class, "end", -1);
        run.tapeIs(ROW);
        run.gives(0, "end", 0);
        run.refuses(IllegalArgumentException.class, "end", -1);
    }

    private static void bothSidesOfTheLength() {
        for (int length : new int[] {1, 2, 19, 20, 31, 32}) {
            Run run = new Run("a tape of " + length);
            run.tape(Arrays.copyOf(ROW, length));
            run.refuses(IllegalArgumentException.class, "end", length + 1);
            run.gives(length, "end", length);
            run.tapeIs(Arrays.copyOf(ROW, length));
            run.gives(length - 1, "end", length - 1);
            run.refuses(IllegalArgumentException.class, "end", length);
            run.tapeIs(Arrays.copyOf(ROW, length - 1));
        }
    }

    private static void extremeNumbers() {
        Run run = new Run("extreme numbers");
        run.tape(ROW);
        for (int n : new int[] {Integer.MIN_VALUE, Integer.MAX_VALUE, 65536, 65537, -32, 256 + 20, 65536 + 20}) {
            run.refuses(IllegalArgumentException.class, "end", n);
        }
        run.tapeIs(ROW);
    }

    private static void whatIsCutDoesNotComeBack() {
        Run run = new Run("cut bytes");
        run.tape(ROW);
        run.gives(10, "end", 10);
        for (int n = 11; n <= 32; n++) {
            run.refuses(IllegalArgumentException.class, "end", n);
        }
        run.gives(30, "feed", 0, 0, 0, 0, 0);
        run.tapeIs(Arrays.copyOf(Arrays.copyOf(ROW, 10), 30));
    }

    private static void changesNothingElse() {
        Run run = new Run("end and the rest");
        run.key(SECRET);
        run.message(ROW);
        run.call("open", 0);
        run.tape(ROW);
        run.gives(5, "end", 5);
        run.showsAll();
        run.messageIs(ROW);
        run.resultIs(Reference.publicKey(SECRET));
    }
}
