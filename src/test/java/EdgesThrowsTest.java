import java.math.BigInteger;
import java.util.Arrays;
import java.util.List;
import java.util.ArrayList;

/**
 * "What throws changes nothing; of two exceptions the one that a call names first is thrown." Every call that
 * may throw is made in many states; where it throws, no later call may show that it was made.
 */
public final class EdgesThrowsTest {
    private static final BigInteger SECRET = BigInteger.valueOf(42195);
    private static final byte[] TEXT = Hand.text("a message that stays");
    private static final byte[] PUBLIC = Reference.publicKey(SECRET);
    private static final byte[] GOOD = Reference.sign(SECRET, TEXT);

    private interface State {
        void bring(Run run);
    }

    private record Call(String name, int... numbers) {
    }

    public static void main(String[] args) {
        int thrown = 0;
        thrown += inState("a new object", run -> { });
        thrown += inState("20 bytes", run -> run.tape(new byte[20]));
        thrown += inState("32 zeros", run -> run.tape(new byte[32]));
        thrown += inState("the order", run -> run.tape(Reference.bytes32(Reference.N)));
        thrown += inState("a public key and no key", run -> run.tape(PUBLIC));
        thrown += inState("64 bytes", run -> used(run, Arrays.copyOf(PUBLIC, 64)));
        thrown += inState("66 bytes", run -> used(run, Arrays.copyOf(PUBLIC, 66)));
        thrown += inState("no point", run -> used(run, new byte[65]));
        thrown += inState("a public key", run -> used(run, PUBLIC));
        thrown += inState("a secret as the result", EdgesThrowsTest::agreed);
        thrown += inState("verdicts", EdgesThrowsTest::judged);
        thrown += inState("100 keys", run -> full(run, Reference.bytes32(SECRET)));
        thrown += inState("100 keys and no key", run -> full(run, new byte[32]));
        Check.isTrue("enough calls threw: " + thrown, thrown > 200);
        Check.end();
    }

    private static void used(Run run, byte[] tape) {
        run.key(SECRET);
        run.key(BigInteger.TEN);
        run.message(TEXT);
        run.call("sign", 0);
        run.tape(tape);
    }

    private static void agreed(Run run) {
        run.key(SECRET);
        run.message(TEXT);
        run.tape(PUBLIC);
        run.call("agree", 0);
        run.tape(Hand.text("short"));
    }

    private static void judged(Run run) {
        used(run, new byte[0]);
        run.verdict(0, PUBLIC, GOOD);
        run.verdict(1, PUBLIC, new byte[5]);
        run.verdict(2, PUBLIC, Reference.der(BigInteger.ZERO, BigInteger.ZERO));
        run.verdict(3, new byte[65], GOOD);
        run.verdict(4, PUBLIC, Reference.der(BigInteger.ONE, BigInteger.ONE));
        run.call("open", 1);
        run.call("back", 7, 7);
        run.gives(33, "end", 33);
    }

    private static void full(Run run, byte[] tape) {
        run.keysUpTo(100);
        run.message(TEXT);
        run.tape(tape);
    }

    private static int inState(String title, State state) {
        Run look = new Run(title);
        state.bring(look);
        int thrown = 0;
        Run all = new Run(title + ", all refused calls");
        state.bring(all);
        for (Call call : callsAt(look)) {
            Run run = new Run(title);
            state.bring(run);
            if (run.call(call.name, call.numbers).startsWith("throws.")) {
                thrown++;
                run.showsAll();
                all.call(call.name, call.numbers);
            }
        }
        all.showsAll();
        return thrown;
    }

    /** The calls that may throw, with numbers on both sides of what there is. */
    private static List<Call> callsAt(Run run) {
        List<Call> calls = new ArrayList<>();
        int tape = run.count(0);
        int keys = run.count(1);
        int result = run.count(3);
        for (int n : new int[] {-1, tape + 1, Integer.MIN_VALUE, Integer.MAX_VALUE}) {
            calls.add(new Call("end", n));
        }
        calls.add(new Call("key"));
        calls.add(new Call("verify"));
        for (int key : new int[] {-1, 0, keys, keys + 1, 100, Integer.MIN_VALUE, Integer.MAX_VALUE}) {
            calls.add(new Call("open", key));
            calls.add(new Call("agree", key));
            calls.add(new Call("sign", key));
        }
        for (int at : new int[] {-2, result, result + 1, Integer.MIN_VALUE, Integer.MAX_VALUE}) {
            calls.add(new Call("back", at, 255));
        }
        for (int i : new int[] {-1, result, Integer.MIN_VALUE, Integer.MAX_VALUE}) {
            calls.add(new Call("result", i));
        }
        return calls;
    }
}
