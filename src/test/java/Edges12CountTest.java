import java.math.BigInteger;
import java.util.NoSuchElementException;

/**
 * Promise 12 at its edges: "0: the TAPE's length; 1: KEYS; 2: THE MESSAGE's length; 3: THE RESULT's;
 * 4: SIGNATURES made; 5 to 9: how often verify answered 0 to 4. Else -1."
 */
public final class Edges12CountTest {
    private static final BigInteger SECRET = BigInteger.valueOf(20260);
    private static final byte[] TEXT = Hand.text("counted");
    private static final byte[] PUBLIC = Reference.publicKey(SECRET);
    private static final byte[] GOOD = Reference.sign(SECRET, TEXT);

    public static void main(String[] args) {
        bothSidesOf0And9();
        everyNumberHasItsOwn();
        refusedCallsCountNothing();
        onlyMadeSignaturesCount();
        lengthsFollow();
        changesNothing();
        Check.end();
    }

    private static void countsAre(Run run, int... due) {
        for (int what = 0; what <= 9; what++) {
            run.gives(due[what], "count", what);
        }
        elseIsMinusOne(run);
    }

    private static void elseIsMinusOne(Run run) {
        for (int what : new int[] {-1, -2, 10, 11, Integer.MIN_VALUE, Integer.MAX_VALUE}) {
            run.gives(-1, "count", what);
        }
    }

    private static void bothSidesOf0And9() {
        Run run = new Run("a new object");
        countsAre(run, 0, 0, 0, 0, 0, 0, 0, 0, 0, 0);
        for (int what = -40; what < 0; what++) {
            run.gives(-1, "count", what);
        }
        for (int what = 10; what <= 70; what++) {
            run.gives(-1, "count", what);
        }
        for (int high : new int[] {256, 65536, 1 << 24, Integer.MIN_VALUE}) {
            for (int what = 0; what <= 9; what++) {
                run.gives(-1, "count", high + what);
            }
        }
    }

    // Every count becomes another number, so that none stands for another.
    private static void everyNumberHasItsOwn() {
        Run run = new Run("counts");
        run.key(SECRET);
        run.key(SECRET);
        countsAre(run, 0, 2, 0, 0, 0, 0, 0, 0, 0, 0);
        run.message(TEXT);
        countsAre(run, 0, 2, 7, 0, 0, 0, 0, 0, 0, 0);
        for (int i = 0; i < 9; i++) {
            run.call("sign", i % 2);
        }
        countsAre(run, 0, 2, 7, GOOD.length, 9, 0, 0, 0, 0, 0);
        byte[][] keys = {PUBLIC, PUBLIC, PUBLIC, new byte[65], PUBLIC};
        byte[][] rows = {
            GOOD, new byte[0], Reference.der(BigInteger.ZERO, BigInteger.ONE), GOOD,
            Reference.der(BigInteger.ONE, BigInteger.ONE)
        };
        int[] times = {3, 6, 4, 1, 5};
        for (int verdict = 0; verdict < 5; verdict++) {
            for (int i = 0; i < times[verdict]; i++) {
                run.verdict(verdict, keys[verdict], rows[verdict]);
            }
        }
        run.tape(new byte[11]);
        countsAre(run, 11, 2, 7, GOOD.length, 9, 3, 6, 4, 1, 5);
        run.call("open", 0);
        countsAre(run, 11, 2, 7, 65, 9, 3, 6, 4, 1, 5);
        run.tape(PUBLIC);
        run.call("agree", 1);
        countsAre(run, 0, 2, 7, 32, 9, 3, 6, 4, 1, 5);
        run.call("message");
        countsAre(run, 0, 2, 0, 32, 9, 3, 6, 4, 1, 5);
    }

    private static void refusedCallsCountNothing() {
        Run run = new Run("refused calls");
        run.key(SECRET);
        run.message(TEXT);
        run.call("open", 0);
        run.tape(new byte[64]);
        int[] due = {64, 1, 7, 65, 0, 0, 0, 0, 0, 0};
        run.throwsJust(IllegalArgumentException.class, "end", 65);
        run.throwsJust(IllegalArgumentException.class, "key");
        run.throwsJust(NoSuchElementException.class, "open", 1);
        run.throwsJust(NoSuchElementException.class, "agree", 1);
        run.throwsJust(IllegalArgumentException.class, "agree", 0);
        run.throwsJust(NoSuchElementException.class, "sign", 1);
        run.throwsJust(IllegalArgumentException.class, "verify");
        run.throwsJust(IndexOutOfBoundsException.class, "back", 65, 0);
        run.throwsJust(IndexOutOfBoundsException.class, "result", 65);
        countsAre(run, due);
        run.showsAll();
    }

    private static void onlyMadeSignaturesCount() {
        Run run = new Run("signatures");
        run.throwsJust(NoSuchElementException.class, "sign", 0);
        run.gives(0, "count", 4);
        run.key(SECRET);
        run.message(TEXT);
        run.gives(GOOD.length, "sign", 0);
        run.gives(1, "count", 4);
        run.throwsJust(NoSuchElementException.class, "sign", 1);
        run.gives(1, "count", 4);
        run.verdict(0, PUBLIC, GOOD);
        run.call("back", -1, 0);
        run.call("open", 0);
        run.gives(1, "count", 4);
        run.gives(GOOD.length, "sign", 0);
        run.gives(2, "count", 4);
    }

    private static void lengthsFollow() {
        Run run = new Run("lengths");
        for (int i = 1; i <= 30; i++) {
            run.call("feed", i, i, i, i, i);
            run.gives(20 * i, "count", 0);
        }
        for (int n = 600; n >= 0; n -= 60) {
            run.gives(n, "end", n);
            run.gives(n, "count", 0);
        }
        for (int length : new int[] {0, 1, 64, 300, 2}) {
            run.message(new byte[length]);
            run.gives(length, "count", 2);
            run.gives(0, "count", 0);
        }
    }

    private static void changesNothing() {
        Run run = new Run("count and the rest");
        run.key(SECRET);
        run.message(TEXT);
        run.call("sign", 0);
        run.tape(Hand.text("tape"));
        for (int what = -2; what <= 12; what++) {
            run.call("count", what);
        }
        run.tapeIs(Hand.text("tape"));
        run.messageIs(TEXT);
        run.resultIs(GOOD);
        run.showsAll();
    }
}
