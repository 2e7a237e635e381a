import java.math.BigInteger;

/** Promise 7: message. */
public final class Promise07MessageTest {
    private static final BigInteger SECRET = Reference.hex("feedface00000000000000000000000000000000000000000000000000000001");

    public static void main(String[] args) {
        allLengthsRoundABlock();
        longMessage();
        isTheTapeAtThatTime();
        emptyMessageReplaces();
        Check.end();
    }

    private static void allLengthsRoundABlock() {
        for (int length = 0; length <= 200; length++) {
            PrimeKeys x = new PrimeKeys();
            Hand.key(x, SECRET);
            byte[] row = pattern(length);
            Hand.feed(x, row);
            Check.same("message()", x.message(), length);
            Check.same("tape after message", x.count(0), 0);
            Check.same("message's length", x.count(2), length);
            x.sign(0);
            Check.same("signature of " + length + " bytes", Hand.result(x), Reference.sign(SECRET, row));
        }
    }

    private static void longMessage() {
        PrimeKeys x = new PrimeKeys();
        Hand.key(x, SECRET);
        byte[] row = pattern(8200);
        Hand.feed(x, row);
        Check.same("message of 8200 bytes", x.message(), 8200);
        x.sign(0);
        Check.same("signature of 8200 bytes", Hand.result(x), Reference.sign(SECRET, row));
    }

    private static void isTheTapeAtThatTime() {
        PrimeKeys x = new PrimeKeys();
        Hand.key(x, SECRET);
        Hand.feed(x, Hand.text("first"));
        x.message();
        Hand.feed(x, Hand.text("second, longer"));
        x.sign(0);
        Check.same("signature of the first", Hand.result(x), Reference.sign(SECRET, Hand.text("first")));
        Check.same("length of the first", x.count(2), 5);
        Check.same("message() of the second", x.message(), 14);
        x.sign(0);
        Check.same("signature of the second", Hand.result(x), Reference.sign(SECRET, Hand.text("second, longer")));
        x.sign(0);
        Check.same("the same again", Hand.result(x), Reference.sign(SECRET, Hand.text("second, longer")));
    }

    private static void emptyMessageReplaces() {
        PrimeKeys x = new PrimeKeys();
        Hand.key(x, SECRET);
        Hand.message(x, Hand.text("gone"));
        Check.same("message() of no tape", x.message(), 0);
        Check.same("its length", x.count(2), 0);
        x.sign(0);
        Check.same("signature of nothing", Hand.result(x), Reference.sign(SECRET, new byte[0]));
    }

    private static byte[] pattern(int length) {
        byte[] row = new byte[length];
        for (int i = 0; i < length; i++) {
            row[i] = (byte) (i * i * 7 + 3 * i + length);
        }
        return row;
    }
}
