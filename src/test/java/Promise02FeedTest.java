import java.math.BigInteger;

/** Promise 2: feed. */
public final class Promise02FeedTest {
    private static final BigInteger SECRET = BigInteger.valueOf(12345);

    public static void main(String[] args) {
        bytesComeHighestFirst();
        lengthsAdd();
        otherThingsStay();
        fullTapeRefuses();
        Check.end();
    }

    private static void bytesComeHighestFirst() {
        PrimeKeys x = new PrimeKeys();
        Hand.key(x, SECRET);
        Check.same("first feed", x.feed(0x01020304, 0x80ff7f00, -1, Integer.MIN_VALUE, Integer.MAX_VALUE), 20);
        Check.same("second feed", x.feed(5, 6, 7, 8, 9), 40);
        String first = "0102030480ff7f00ffffffff800000007fffffff";
        String second = "0000000500000006000000070000000800000009";
        Hand.tapeIs("two feeds", x, SECRET, Hand.bytes(first + second));
    }

    private static void lengthsAdd() {
        PrimeKeys x = new PrimeKeys();
        Hand.key(x, SECRET);
        byte[] due = new byte[400 * 20];
        for (int i = 0; i < 400; i++) {
            Check.same("length after feed " + i, x.feed(i, 0, 0, 0, ~i), 20 * (i + 1));
            due[20 * i + 2] = (byte) (i >> 8);
            due[20 * i + 3] = (byte) i;
            due[20 * i + 16] = -1;
            due[20 * i + 17] = -1;
            due[20 * i + 18] = (byte) (~i >> 8);
            due[20 * i + 19] = (byte) ~i;
        }
        Hand.tapeIs("400 feeds", x, SECRET, due);
    }

    private static void otherThingsStay() {
        PrimeKeys x = new PrimeKeys();
        Hand.key(x, SECRET);
        Hand.message(x, Hand.text("kept"));
        x.sign(0);
        byte[] before = Hand.result(x);
        x.feed(1, 2, 3, 4, 5);
        Check.same("result after feed", Hand.result(x), before);
        Check.same("message's length after feed", x.count(2), 4);
        x.sign(0);
        Check.same("signature after feed", Hand.result(x), before);
    }

    // No run of 512 calls fills the tape, so this looks at what the limit does, beyond what is promised.
    private static void fullTapeRefuses() {
        PrimeKeys x = new PrimeKeys();
        Hand.key(x, SECRET);
        byte[] due = new byte[65520];
        for (int i = 0; i < 3276; i++) {
            x.feed(i, 0, 0, 0, 0);
            due[20 * i + 2] = (byte) (i >> 8);
            due[20 * i + 3] = (byte) i;
        }
        Check.same("the fullest tape", x.count(0), 65520);
        Check.refuses("feed on 65520 bytes", x, IllegalStateException.class, () -> x.feed(1, 1, 1, 1, 1));
        x.end(65517);
        Check.refuses("feed on 65517 bytes", x, IllegalStateException.class, () -> x.feed(1, 1, 1, 1, 1));
        x.end(65516);
        Check.same("feed on 65516 bytes", x.feed(0, 0, 0, 0, 0), 65536);
        Check.refuses("feed on 65536 bytes", x, IllegalStateException.class, () -> x.feed(1, 1, 1, 1, 1));
        x.end(65520);
        due[65516] = 0;
        due[65517] = 0;
        due[65518] = 0;
        due[65519] = 0;
        Hand.tapeIs("a full tape", x, SECRET, due);
    }
}
