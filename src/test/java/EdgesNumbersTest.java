import java.math.BigInteger;
import java.util.ArrayList;
import java.util.List;
import java.util.NoSuchElementException;
import java.util.TreeSet;

/**
 * "No such KEY." "No such byte." "There is none." "n is not 0 .. its length." "Else -1." Each for every small
 * number that is meant, and for those round the powers of 2, where a number cut to fewer bits may seem right.
 */
public final class EdgesNumbersTest {
    private static final int SMALL = 140;
    private static final int AT_ONCE = 200;
    private static final BigInteger SECRET = BigInteger.valueOf(161803);
    private static final byte[] PUBLIC = Reference.publicKey(SECRET);
    private static final TreeSet<Integer> NUMBERS = numbers();

    public static void main(String[] args) {
        noSuchKey();
        noSuchByte();
        beyondTheTape();
        elseMinusOne();
        Check.end();
    }

    private static TreeSet<Integer> numbers() {
        TreeSet<Integer> numbers = new TreeSet<>();
        for (int n = -SMALL; n <= SMALL; n++) {
            numbers.add(n);
        }
        for (int bit = 8; bit < 32; bit++) {
            for (int step = -2; step <= 2; step++) {
                numbers.add((1 << bit) + step);
                numbers.add(-(1 << bit) + step);
            }
        }
        return numbers;
    }

    // Lists of so many that a run has calls enough for one.
    private static List<List<Integer>> outside(int from, int to) {
        List<List<Integer>> lists = new ArrayList<>();
        for (int n : NUMBERS) {
            if (n < from || n > to) {
                if (lists.isEmpty() || lists.get(lists.size() - 1).size() == AT_ONCE) {
                    lists.add(new ArrayList<>());
                }
                lists.get(lists.size() - 1).add(n);
            }
        }
        return lists;
    }

    private static Run ready(String title) {
        Run run = new Run(title);
        run.key(SECRET);
        run.key(SECRET.negate().mod(Reference.N));
        run.message(Hand.text("numbers"));
        run.tape(PUBLIC);
        return run;
    }

    private static void noSuchKey() {
        for (String name : new String[] {"open", "agree", "sign"}) {
            for (List<Integer> list : outside(0, 1)) {
                Run run = ready("keys that are none, to " + name);
                for (int key : list) {
                    run.throwsJust(NoSuchElementException.class, name, key);
                }
                run.showsAll();
            }
        }
    }

    // The result is nothing, an agreed secret, a public key and a signature.
    private static Run withResult(String last) {
        Run run = ready("bytes that are none, after " + last);
        if (!last.isEmpty()) {
            run.call(last, 0);
        }
        return run;
    }

    private static void noSuchByte() {
        for (String last : new String[] {"", "agree", "open", "sign"}) {
            int length = withResult(last).count(3);
            for (List<Integer> list : outside(0, length - 1)) {
                Run run = withResult(last);
                for (int at : list) {
                    run.throwsJust(IndexOutOfBoundsException.class, "result", at);
                    if (at != -1) {
                        run.throwsJust(IndexOutOfBoundsException.class, "back", at, 255);
                    }
                }
                run.showsAll();
            }
        }
    }

    private static void beyondTheTape() {
        for (List<Integer> list : outside(0, PUBLIC.length)) {
            Run run = ready("lengths that are none");
            for (int n : list) {
                run.throwsJust(IllegalArgumentException.class, "end", n);
            }
            run.showsAll();
        }
    }

    private static void elseMinusOne() {
        for (List<Integer> list : outside(0, 9)) {
            Run run = ready("counts that are none");
            for (int what : list) {
                run.gives(-1, "count", what);
            }
            run.showsAll();
        }
    }
}
