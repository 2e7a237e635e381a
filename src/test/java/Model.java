import java.io.ByteArrayOutputStream;
import java.math.BigInteger;
import java.util.ArrayList;
import java.util.Arrays;
import java.util.List;
import java.util.NoSuchElementException;

/** The document once more, written as plainly as can be over the Reference. */
final class Model {
    private byte[] tape = new byte[0];
    private final List<BigInteger> secrets = new ArrayList<>();
    private byte[] text = new byte[0];
    private byte[] outcome = new byte[0];
    private int signatures = 0;
    private final int[] verdicts = new int[5];

    int feed(int a, int b, int c, int d, int e) {
        if (tape.length + 20 > 65536) {
            throw new IllegalStateException();
        }
        ByteArrayOutputStream more = new ByteArrayOutputStream();
        for (int word : new int[] {a, b, c, d, e}) {
            for (int shift = 24; shift >= 0; shift -= 8) {
                more.write(word >>> shift);
            }
        }
        tape = Hand.join(tape, more.toByteArray());
        return tape.length;
    }

    int end(int n) {
        if (n < 0 || n > tape.length) {
            throw new IllegalArgumentException();
        }
        tape = Arrays.copyOf(tape, n);
        return n;
    }

    int key() {
        if (tape.length != 32 || !Reference.isInRange(Reference.number(tape))) {
            throw new IllegalArgumentException();
        }
        if (secrets.size() == 100) {
            throw new IllegalStateException();
        }
        secrets.add(Reference.number(taken()));
        return secrets.size() - 1;
    }

    int open(int key) {
        outcome = Reference.publicKey(secret(key));
        return 0;
    }

    int agree(int key) {
        BigInteger secret = secret(key);
        BigInteger[] point = Reference.pointOf(tape);
        if (point == null) {
            throw new IllegalArgumentException();
        }
        taken();
        outcome = Reference.bytes32(Reference.times(secret, point)[0]);
        return 0;
    }

    int message() {
        text = taken();
        return text.length;
    }

    int sign(int key) {
        outcome = Reference.sign(secret(key), text);
        signatures++;
        return outcome.length;
    }

    int verify() {
        if (tape.length < 65) {
            throw new IllegalArgumentException();
        }
        byte[] row = taken();
        int verdict = Reference.verify(text, Arrays.copyOf(row, 65), Arrays.copyOfRange(row, 65, row.length));
        verdicts[verdict]++;
        return verdict;
    }

    int back(int at, int with) {
        if (at < -1 || at >= outcome.length) {
            throw new IndexOutOfBoundsException();
        }
        if (tape.length + outcome.length > 65536) {
            throw new IllegalStateException();
        }
        byte[] row = outcome.clone();
        if (at >= 0) {
            row[at] ^= (byte) with;
        }
        tape = Hand.join(tape, row);
        return tape.length;
    }

    int result(int i) {
        if (i < 0 || i >= outcome.length) {
            throw new IndexOutOfBoundsException();
        }
        return outcome[i] & 255;
    }

    int count(int what) {
        int[] counts = {tape.length, secrets.size(), text.length, outcome.length, signatures,
            verdicts[0], verdicts[1], verdicts[2], verdicts[3], verdicts[4]};
        return what >= 0 && what < counts.length ? counts[what] : -1;
    }

    byte[] tape() {
        return tape.clone();
    }

    byte[] text() {
        return text.clone();
    }

    BigInteger secret(int key) {
        if (key < 0 || key >= secrets.size()) {
            throw new NoSuchElementException();
        }
        return secrets.get(key);
    }

    private byte[] taken() {
        byte[] row = tape;
        tape = new byte[0];
        return row;
    }
}
