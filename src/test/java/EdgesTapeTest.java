import java.math.BigInteger;
import java.util.Arrays;

/**
 * "THE TAPE: a row of bytes, at most 65,536, empty at first; a call that takes the TAPE leaves it empty,
 * unless it throws." What happens at 65,536 bytes, which no run reaches, stands in Promise02FeedTest and
 * Promise10BackTest.
 */
public final class EdgesTapeTest {
    private static final BigInteger SECRET = BigInteger.valueOf(8191);
    private static final byte[] PUBLIC = Reference.publicKey(SECRET);
    private static final byte[] TEXT = Hand.text("some message");
    private static final byte[] GOOD = Reference.sign(SECRET, TEXT);

    public static void main(String[] args) {
        isEmptyAtFirst();
        takingLeavesItEmpty();
        everyVerdictLeavesItEmpty();
        throwingLeavesIt();
        otherCallsLeaveIt();
        takenBytesAreGone();
        everyLengthWhereRowsMayGrow();
        longestOfARun();
        Check.end();
    }

    private static Run ready(String title) {
        Run run = new Run(title);
        run.key(SECRET);
        run.message(TEXT);
        return run;
    }

    private static void isEmptyAtFirst() {
        Run run = new Run("a new tape");
        run.gives(0, "count", 0);
        run.gives(0, "end", 0);
        run.refuses(IllegalArgumentException.class, "end", 1);
        run.tapeIs(new byte[0]);
    }

    private static void isTaken(Run run, int due, String name, int... numbers) {
        run.gives(due, name, numbers);
        run.gives(0, "count", 0);
        run.showsAll();
        run.gives(20, "feed", 1, 2, 3, 4, 5);
    }

    private static void takingLeavesItEmpty() {
        Run key = ready("key takes");
        key.tape(Reference.bytes32(SECRET));
        isTaken(key, 1, "key");
        Run agree = ready("agree takes");
        agree.tape(PUBLIC);
        isTaken(agree, 0, "agree", 0);
        Run message = ready("message takes");
        message.tape(PUBLIC);
        isTaken(message, 65, "message");
        Run nothing = ready("message takes nothing");
        isTaken(nothing, 0, "message");
    }

    private static void everyVerdictLeavesItEmpty() {
        BigInteger one = BigInteger.ONE;
        byte[][] tapes = {
            Hand.join(PUBLIC, GOOD), PUBLIC, Hand.join(PUBLIC, Reference.der(BigInteger.ZERO, one)),
            Hand.join(new byte[65], GOOD), Hand.join(PUBLIC, Reference.der(one, one))
        };
        for (int verdict = 0; verdict < 5; verdict++) {
            Run run = ready("verify takes, verdict " + verdict);
            run.tape(tapes[verdict]);
            isTaken(run, verdict, "verify");
        }
    }

    private static void throwingLeavesIt() {
        byte[] short64 = Arrays.copyOf(PUBLIC, 64);
        Run run = ready("calls that throw");
        run.tape(short64);
        run.refuses(IllegalArgumentException.class, "key");
        run.refuses(IllegalArgumentException.class, "agree", 0);
        run.refuses(java.util.NoSuchElementException.class, "agree", 1);
        run.refuses(IllegalArgumentException.class, "verify");
        run.refuses(IllegalArgumentException.class, "end", 65);
        run.refuses(IndexOutOfBoundsException.class, "back", 0, 1);
        run.gives(64, "count", 0);
        run.tapeIs(short64);
    }

    private static void otherCallsLeaveIt() {
        Run run = ready("calls that do not take the tape");
        run.tape(PUBLIC);
        run.call("open", 0);
        run.tapeIs(PUBLIC);
        run.call("sign", 0);
        run.tapeIs(PUBLIC);
        run.call("result", 0);
        run.call("count", 2);
        run.tapeIs(PUBLIC);
        run.gives(65, "end", 65);
        run.tapeIs(PUBLIC);
    }

    // Neither a taken tape's bytes nor those cut off come back.
    private static void takenBytesAreGone() {
        Run run = ready("taken bytes");
        byte[] full = new byte[100];
        Arrays.fill(full, (byte) 255);
        run.tape(full);
        run.gives(100, "message");
        run.refuses(IllegalArgumentException.class, "end", 1);
        run.more(new byte[40]);
        run.tapeIs(new byte[40]);
        run.gives(3, "end", 3);
        run.refuses(IllegalArgumentException.class, "end", 4);
        run.gives(23, "feed", -1, 0, 0, 0, 0);
        byte[] due = new byte[23];
        Arrays.fill(due, 3, 7, (byte) 255);
        run.tapeIs(due);
    }

    private static void everyLengthWhereRowsMayGrow() {
        for (int size = 32; size <= 32768; size *= 2) {
            for (int length = size - 1; length <= size + 1; length++) {
                grows(length, 20);
                if (length >= 65) {
                    grows(length, 65);
                }
            }
        }
    }

    private static void grows(int length, int last) {
        Run run = ready("a tape of " + length + " bytes, the last " + last + " at once");
        while (run.count(0) < length - last) {
            run.call(run.count(0) % 3 == 0 ? "sign" : "open", 0);
            run.call("back", run.count(0) % 60, run.count(0));
            while (run.count(0) < length - last && run.count(0) > 700) {
                run.call("back", run.count(0) % 60, run.count(0) / 60);
            }
        }
        run.gives(length - last, "end", length - last);
        run.call("open", 0);
        if (last == 20) {
            run.gives(length, "feed", 0x80010203, -1, 7, 1 << 31, length);
        } else {
            run.gives(length, "back", 64, length);
        }
        run.gives(length, "message");
        run.call("sign", 0);
        run.call("result", 10);
        run.call("result", 30);
        run.call("result", 60);
    }

    private static void longestOfARun() {
        Run run = new Run("the longest tape");
        run.key(Reference.hex("c9afa9d845ba75166b5c215767b1d6934e50c3db36e89b127b8a622b120f6721"));
        run.message(Hand.text("sample"));
        run.gives(72, "sign", 0);
        int due = 0;
        while (run.left() > 4) {
            due += 72;
            run.gives(due, "back", due % 72, due);
        }
        run.gives(due, "message");
        run.call("sign", 0);
        run.call("result", 20);
        run.call("result", 50);
        Check.same("its length", due, 36000);
    }
}
