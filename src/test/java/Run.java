import java.math.BigInteger;
import java.util.ArrayList;
import java.util.Arrays;
import java.util.List;

/**
 * A run of calls on a new object and on a new Model side by side, where every answer is compared. A run is
 * never longer than the document's 512 calls. All its calls can be made again on another object, so that the
 * state can be looked at without being changed.
 */
final class Run {
    static final int LONGEST = 512;
    private static final BigInteger LOOKING_KEY = BigInteger.valueOf(77);

    private record Call(String name, int[] numbers) {
    }

    private final String title;
    private final PrimeKeys x = new PrimeKeys();
    private final Model model = new Model();
    private final List<Call> calls = new ArrayList<>();

    Run(String title) {
        this.title = title;
    }

    /** The answer of the Model, or the exception's name behind "throws."; the program's must be the same. */
    String call(String name, int... numbers) {
        calls.add(new Call(name, numbers));
        if (calls.size() > LONGEST) {
            throw new AssertionError(title + " is longer than the document's runs");
        }
        String got = answer(false, name, numbers);
        String due = answer(true, name, numbers);
        Check.same(told(name, numbers), got, due);
        return due;
    }

    /** The call answers this number, as the test itself knows; open and agree answer 0 here. */
    void gives(int due, String name, int... numbers) {
        Check.same(told(name, numbers) + " by the test", call(name, numbers), String.valueOf(due));
    }

    /** The call throws just this. */
    void throwsJust(Class<? extends RuntimeException> due, String name, int... numbers) {
        Check.same(told(name, numbers) + " by the test", call(name, numbers), "throws." + due.getSimpleName());
    }

    /** The call throws just this, and no later call shows that it was made. */
    void refuses(Class<? extends RuntimeException> due, String name, int... numbers) {
        throwsJust(due, name, numbers);
        showsAll();
    }

    int left() {
        return LONGEST - calls.size();
    }

    int count(int what) {
        return model.count(what);
    }

    /** Calls that change nothing, until only so many are left. */
    void idleUntilLeft(int rest) {
        while (left() > rest) {
            call("count", 1);
        }
    }

    /** Brings the row to the end of the tape. */
    void more(byte[] row) {
        int before = count(0);
        for (int at = 0; at < row.length; at += 20) {
            int[] words = Hand.words(Arrays.copyOfRange(row, at, at + 20));
            call("feed", words);
        }
        if (count(0) != before + row.length) {
            gives(before + row.length, "end", before + row.length);
        }
    }

    /** The row is the tape. */
    void tape(byte[] row) {
        if (count(0) != 0) {
            gives(0, "end", 0);
        }
        more(row);
    }

    void key(BigInteger number) {
        tape(Reference.bytes32(number));
        gives(count(1), "key");
    }

    /** Many keys with few calls: each is the agreed secret of the first, with its last byte changed. */
    void keysUpTo(int due) {
        key(LOOKING_KEY);
        call("open", 0);
        call("back", -1, 0);
        call("agree", 0);
        while (count(1) < due) {
            call("back", 31, count(1));
            gives(count(1), "key");
        }
    }

    void message(byte[] row) {
        tape(row);
        gives(row.length, "message");
    }

    void verdict(int due, byte[] publicKey, byte[] signature) {
        tape(Hand.join(publicKey, signature));
        gives(due, "verify");
    }

    void resultIs(byte[] due) {
        gives(due.length, "count", 3);
        for (int i = 0; i < due.length; i++) {
            gives(due[i] & 255, "result", i);
        }
    }

    /** The tape's bytes are these, as a signature of them tells. Done on another object. */
    void tapeIs(byte[] due) {
        Run look = again("the tape");
        look.gives(due.length, "message");
        look.signatureIs(due);
    }

    /** The message is this, as a signature of it tells. Done on another object. */
    void messageIs(byte[] due) {
        Run look = again("the message");
        look.gives(0, "end", 0);
        look.gives(due.length, "count", 2);
        look.signatureIs(due);
    }

    private void signatureIs(byte[] message) {
        BigInteger secret = needKey();
        byte[] due = Reference.sign(secret, message);
        gives(due.length, "sign", 0);
        int shown = Math.min(due.length, left());
        for (int i = 0; i < shown; i++) {
            gives(due[i] & 255, "result", i);
        }
    }

    private BigInteger needKey() {
        if (count(1) == 0) {
            key(LOOKING_KEY);
        }
        return model.secret(0);
    }

    /** All that later calls can show is as the Model has it: the state is rebuilt for each look. */
    void showsAll() {
        looksAtCounts();
        tapeIs(model.tape());
        messageIs(model.text());
        looksAtKeys();
        looksAtGrowth();
        for (String name : new String[] {"key", "agree", "verify"}) {
            Run look = again(name);
            look.call(name, name.equals("agree") ? new int[] {0} : new int[0]);
            look.looksAtCountsHere();
        }
        looksAtWork();
    }

    private void looksAtCounts() {
        again("the counts").looksAtCountsHere();
    }

    private void looksAtCountsHere() {
        for (int what = -1; what <= 10; what++) {
            call("count", what);
        }
        int shown = Math.min(count(3), left() - 2);
        for (int i = -1; i <= shown; i++) {
            call("result", i);
        }
    }

    // A public key is told by a few of its bytes, since a run of 100 keys leaves few calls.
    private void looksAtKeys() {
        Run look = again("the keys");
        int step = Math.max(1, count(1) / 10);
        for (int key = 0; key <= count(1) && look.left() > 4; key += step) {
            look.call("open", key);
            look.call("result", 1);
            look.call("result", 40);
            look.call("result", 64);
        }
        look.call("open", count(1) - 1);
    }

    private void looksAtGrowth() {
        Run look = again("what comes to the tape");
        look.call("feed", 0x01020304, -1, 0, 0x7f80ff00, 5);
        look.call("back", -1, 3);
        look.call("back", 0, 3);
        look.tapeIs(look.model.tape());
    }

    // What the object holds for its own use must be whole as well.
    private void looksAtWork() {
        Run look = again("the work");
        if (look.left() < 30) {
            return;
        }
        look.call("end", 0);
        look.needKey();
        look.call("open", 0);
        look.call("back", -1, 0);
        look.call("sign", 0);
        look.call("back", -1, 0);
        look.gives(0, "verify");
        look.call("open", look.count(1) - 1);
        look.call("back", -1, 0);
        look.call("agree", 0);
        look.call("result", 0);
        look.call("result", 31);
    }

    private Run again(String what) {
        Run run = new Run(title + ", " + calls.size() + " calls, then " + what);
        for (Call call : calls) {
            run.call(call.name, call.numbers);
        }
        return run;
    }

    private String told(String name, int... numbers) {
        return title + ": call " + calls.size() + ", " + name + Arrays.toString(numbers);
    }

    private String answer(boolean due, String name, int[] numbers) {
        try {
            return String.valueOf(due ? ofModel(name, numbers) : ofProgram(name, numbers));
        } catch (RuntimeException e) {
            return "throws." + e.getClass().getSimpleName();
        }
    }

    private int ofModel(String name, int[] a) {
        return switch (name) {
            case "feed" -> model.feed(a[0], a[1], a[2], a[3], a[4]);
            case "end" -> model.end(a[0]);
            case "key" -> model.key();
            case "open" -> model.open(a[0]);
            case "agree" -> model.agree(a[0]);
            case "message" -> model.message();
            case "sign" -> model.sign(a[0]);
            case "verify" -> model.verify();
            case "back" -> model.back(a[0], a[1]);
            case "result" -> model.result(a[0]);
            case "count" -> model.count(a[0]);
            default -> throw new AssertionError("no call " + name);
        };
    }

    private int ofProgram(String name, int[] a) {
        return switch (name) {
            case "feed" -> x.feed(a[0], a[1], a[2], a[3], a[4]);
            case "end" -> x.end(a[0]);
            case "key" -> x.key();
            case "open" -> opened(a[0]);
            case "agree" -> agreed(a[0]);
            case "message" -> x.message();
            case "sign" -> x.sign(a[0]);
            case "verify" -> x.verify();
            case "back" -> x.back(a[0], a[1]);
            case "result" -> x.result(a[0]);
            case "count" -> x.count(a[0]);
            default -> throw new AssertionError("no call " + name);
        };
    }

    private int opened(int key) {
        x.open(key);
        return 0;
    }

    private int agreed(int key) {
        x.agree(key);
        return 0;
    }
}
