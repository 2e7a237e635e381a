import java.math.BigInteger;
import java.util.NoSuchElementException;

/** Promise 1 at its edges: "No KEYS, all empty." */
public final class Edges01NewObjectTest {
    private static final BigInteger SECRET = BigInteger.valueOf(271828);

    public static void main(String[] args) {
        noKeys();
        emptyTape();
        emptyMessage();
        emptyResult();
        nothingCounted();
        firstKeyIsNumberZero();
        anotherObjectChangesNothing();
        Check.end();
    }

    private static void noKeys() {
        Run run = new Run("no keys");
        run.gives(0, "count", 1);
        for (int key : new int[] {0, -1, 1, 99, 100, Integer.MIN_VALUE, Integer.MAX_VALUE}) {
            run.refuses(NoSuchElementException.class, "open", key);
            run.refuses(NoSuchElementException.class, "agree", key);
            run.refuses(NoSuchElementException.class, "sign", key);
        }
    }

    private static void emptyTape() {
        Run run = new Run("an empty tape");
        run.gives(0, "count", 0);
        run.refuses(IllegalArgumentException.class, "key");
        run.refuses(IllegalArgumentException.class, "verify");
        run.refuses(IllegalArgumentException.class, "end", 1);
        run.refuses(IllegalArgumentException.class, "end", -1);
        run.gives(0, "end", 0);
        run.gives(20, "feed", 0, 0, 0, 0, 0);
    }

    private static void emptyMessage() {
        Run run = new Run("an empty message");
        run.gives(0, "count", 2);
        run.messageIs(new byte[0]);
        run.verdict(0, Reference.publicKey(SECRET), Reference.sign(SECRET, new byte[0]));
        run.verdict(4, Reference.publicKey(SECRET), Reference.sign(SECRET, new byte[1]));
        Run again = new Run("message of an empty tape");
        again.gives(0, "message");
        again.verdict(0, Reference.publicKey(SECRET), Reference.sign(SECRET, new byte[0]));
    }

    private static void emptyResult() {
        Run run = new Run("an empty result");
        run.gives(0, "count", 3);
        run.refuses(IndexOutOfBoundsException.class, "result", 0);
        run.refuses(IndexOutOfBoundsException.class, "result", -1);
        run.refuses(IndexOutOfBoundsException.class, "back", 0, 0);
        run.refuses(IndexOutOfBoundsException.class, "back", -2, 0);
        run.gives(0, "back", -1, 255);
        run.gives(20, "feed", 1, 2, 3, 4, 5);
        run.gives(20, "back", -1, 255);
        run.tapeIs(Hand.bytes("0000000100000002000000030000000400000005"));
    }

    private static void nothingCounted() {
        Run run = new Run("nothing counted");
        for (int what = 0; what <= 9; what++) {
            run.gives(0, "count", what);
        }
        run.gives(-1, "count", 10);
        run.gives(-1, "count", -1);
    }

    private static void firstKeyIsNumberZero() {
        Run run = new Run("the first key");
        run.tape(Reference.bytes32(SECRET));
        run.gives(0, "key");
        run.gives(1, "count", 1);
        run.gives(0, "open", 0);
        run.resultIs(Reference.publicKey(SECRET));
    }

    private static void anotherObjectChangesNothing() {
        Run used = new Run("a used object");
        Run fresh = new Run("a new object beside it");
        used.key(SECRET);
        used.message(Hand.text("not for the other"));
        used.call("sign", 0);
        used.more(new byte[50]);
        fresh.showsAll();
        noKeys();
    }
}
