import java.math.BigInteger;
import java.nio.charset.StandardCharsets;
import java.util.Arrays;
import java.util.HexFormat;

/** Works an object of PrimeKeys with rows of bytes, by its own calls alone. */
final class Hand {
    private Hand() {
    }

    static byte[] bytes(String hex) {
        return HexFormat.of().parseHex(hex);
    }

    static byte[] text(String text) {
        return text.getBytes(StandardCharsets.US_ASCII);
    }

    static byte[] join(byte[]... rows) {
        int length = 0;
        for (byte[] row : rows) {
            length += row.length;
        }
        byte[] all = new byte[length];
        int at = 0;
        for (byte[] row : rows) {
            System.arraycopy(row, 0, all, at, row.length);
            at += row.length;
        }
        return all;
    }

    /** Brings the row to the end of the tape. */
    static void feed(PrimeKeys x, byte[] row) {
        int before = x.count(0);
        for (int at = 0; at < row.length; at += 20) {
            int[] words = words(Arrays.copyOfRange(row, at, at + 20));
            x.feed(words[0], words[1], words[2], words[3], words[4]);
        }
        x.end(before + row.length);
    }

    static int key(PrimeKeys x, BigInteger number) {
        x.end(0);
        feed(x, Reference.bytes32(number));
        return x.key();
    }

    static void message(PrimeKeys x, byte[] row) {
        x.end(0);
        feed(x, row);
        x.message();
    }

    static int verify(PrimeKeys x, byte[] publicKey, byte[] signature) {
        x.end(0);
        feed(x, publicKey);
        feed(x, signature);
        return x.verify();
    }

    static byte[] result(PrimeKeys x) {
        byte[] row = new byte[x.count(3)];
        for (int i = 0; i < row.length; i++) {
            row[i] = (byte) x.result(i);
        }
        return row;
    }

    /** All that can be seen without changing anything. */
    static String sight(PrimeKeys x) {
        StringBuilder text = new StringBuilder();
        for (int what = 0; what < 10; what++) {
            text.append(x.count(what)).append(' ');
        }
        return text.append(HexFormat.of().formatHex(result(x))).toString();
    }

    /** The tape's bytes: they are signed, and the signature is compared. Needs KEY 0 to be this secret. */
    static void tapeIs(String what, PrimeKeys x, BigInteger secret, byte[] due) {
        Check.same(what + ": message", x.message(), due.length);
        x.sign(0);
        Check.same(what + ": signature of the tape", result(x), Reference.sign(secret, due));
    }

    /** Four bytes each, the highest first. */
    static int[] words(byte[] row) {
        int[] words = new int[row.length / 4];
        for (int i = 0; i < row.length; i++) {
            words[i / 4] = words[i / 4] << 8 | row[i] & 255;
        }
        return words;
    }
}
