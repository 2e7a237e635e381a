import java.math.BigInteger;

/** Promise 10: back. */
public final class Promise10BackTest {
    private static final BigInteger SECRET = BigInteger.valueOf(31337);
    private static final byte[] PUBLIC = Reference.publicKey(SECRET);

    public static void main(String[] args) {
        asItIs();
        oneByteChanged();
        emptyResult();
        otherThingsStay();
        refusesOtherPlaces();
        fullTapeRefuses();
        roomForShortResults();
        Check.end();
    }

    private static PrimeKeys opened() {
        PrimeKeys x = new PrimeKeys();
        Hand.key(x, SECRET);
        x.open(0);
        return x;
    }

    private static void asItIs() {
        PrimeKeys x = opened();
        Hand.feed(x, Hand.text("before"));
        Check.same("back(-1, 255)", x.back(-1, 255), 71);
        Check.same("back(-1, 0)", x.back(-1, 0), 136);
        Hand.tapeIs("tape", x, SECRET, Hand.join(Hand.text("before"), PUBLIC, PUBLIC));
    }

    private static void oneByteChanged() {
        int[] places = {0, 1, 31, 32, 64};
        int[] numbers = {0, 1, 128, 255, 256, 257, -1, -256, Integer.MIN_VALUE, Integer.MAX_VALUE, 0x12345678};
        for (int at : places) {
            for (int with : numbers) {
                PrimeKeys x = opened();
                Hand.feed(x, Hand.text("abc"));
                Check.same("back(" + at + ", " + with + ")", x.back(at, with), 68);
                byte[] due = PUBLIC.clone();
                due[at] ^= (byte) with;
                Check.same("result after back", Hand.result(x), PUBLIC);
                Hand.tapeIs("tape after back(" + at + ", " + with + ")", x, SECRET, Hand.join(Hand.text("abc"), due));
            }
        }
    }

    private static void emptyResult() {
        PrimeKeys x = new PrimeKeys();
        Hand.feed(x, Hand.text("abc"));
        Check.same("back of no result", x.back(-1, 7), 3);
        Check.refuses("back(0, 0) of no result", x, IndexOutOfBoundsException.class, () -> x.back(0, 0));
    }

    private static void otherThingsStay() {
        PrimeKeys x = opened();
        Hand.message(x, Hand.text("m"));
        x.back(3, 3);
        Check.same("message's length", x.count(2), 1);
        Check.same("keys", x.count(1), 1);
        Check.same("result's length", x.count(3), 65);
        x.sign(0);
        Check.same("message after back", Hand.result(x), Reference.sign(SECRET, Hand.text("m")));
    }

    private static void refusesOtherPlaces() {
        int[] wrong = {-2, 65, 66, 72, Integer.MIN_VALUE, Integer.MAX_VALUE};
        for (int at : wrong) {
            PrimeKeys x = opened();
            Hand.feed(x, Hand.text("abc"));
            Check.refuses("back(" + at + ", 1)", x, IndexOutOfBoundsException.class, () -> x.back(at, 1));
        }
        PrimeKeys x = opened();
        x.back(-1, 0);
        x.agree(0);
        Check.same("back(31, 1) of 32 bytes", x.back(31, 1), 32);
        Check.refuses("back(32, 1) of 32 bytes", x, IndexOutOfBoundsException.class, () -> x.back(32, 1));
        Check.refuses("back(64, 1) of 32 bytes", x, IndexOutOfBoundsException.class, () -> x.back(64, 1));
    }

    // No run of 512 calls fills the tape, so this looks at what the limit does, beyond what is promised.
    private static void fullTapeRefuses() {
        PrimeKeys x = opened();
        for (int i = 0; i < 1008; i++) {
            x.back(-1, 0);
        }
        Check.same("a tape of 1008 results", x.count(0), 65520);
        Check.refuses("back on 65520 bytes", x, IllegalStateException.class, () -> x.back(-1, 0));
        Check.refuses("back at a place on 65520 bytes", x, IllegalStateException.class, () -> x.back(64, 0));
        Check.refuses("back at no place on 65520", x, IndexOutOfBoundsException.class, () -> x.back(65, 0));
        x.end(65472);
        Check.refuses("back on 65472 bytes", x, IllegalStateException.class, () -> x.back(-1, 0));
        x.end(65471);
        Check.same("back on 65471 bytes", x.back(-1, 0), 65536);
        byte[] due = new byte[65536];
        for (int i = 0; i < 65471; i++) {
            due[i] = PUBLIC[i % 65];
        }
        System.arraycopy(PUBLIC, 0, due, 65471, 65);
        Check.refuses("back on 65536 bytes", x, IllegalStateException.class, () -> x.back(-1, 0));
        Check.refuses("back at a place on 65536 bytes", x, IllegalStateException.class, () -> x.back(0, 1));
        Check.refuses("back before the places on 65536", x, IndexOutOfBoundsException.class, () -> x.back(-2, 0));
        Hand.tapeIs("a full tape", x, SECRET, due);
    }

    // No bytes always find room; and how many there are decides, not how many there were.
    private static void roomForShortResults() {
        PrimeKeys x = new PrimeKeys();
        Hand.key(x, SECRET);
        for (int i = 0; i < 3276; i++) {
            x.feed(0, 0, 0, 0, 0);
        }
        x.end(65516);
        Check.same("a full tape", x.feed(0, 0, 0, 0, 0), 65536);
        Check.same("back of nothing on 65536 bytes", x.back(-1, 9), 65536);
        Check.refuses("back of no byte on 65536", x, IndexOutOfBoundsException.class, () -> x.back(0, 9));
        x.end(0);
        x.open(0);
        x.back(-1, 0);
        x.agree(0);
        for (int i = 0; i < 2047; i++) {
            x.back(-1, 0);
        }
        Check.same("32 bytes on 65504", x.back(31, 1), 65536);
        Check.refuses("32 bytes on 65536", x, IllegalStateException.class, () -> x.back(-1, 0));
        x.end(65505);
        Check.refuses("32 bytes on 65505", x, IllegalStateException.class, () -> x.back(31, 1));
    }
}
