import java.math.BigInteger;
import java.util.Arrays;

/**
 * "A SIGNATURE: SEQUENCE of two INTEGERS r and s in DER: 48, one byte with the number of bytes behind it
 * (below 128), twice: 2, one byte with the number of bytes 1 .. 33, these, the highest first, the first below
 * 128, and 0 only if it is the only one or the next is 128 or more; nothing behind."
 */
public final class EdgesSignatureTest {
    private static final BigInteger SECRET =
        Reference.hex("c9afa9d845ba75166b5c215767b1d6934e50c3db36e89b127b8a622b120f6721");
    private static final byte[] TEXT = Hand.text("sample");
    private static final byte[] PUBLIC = Reference.publicKey(SECRET);
    private static final byte[] GOOD = Reference.sign(SECRET, TEXT);
    private static final byte[] SHORT = Hand.bytes("3006020101020101");
    private static final byte[] ONE = {1};

    public static void main(String[] args) {
        firstByteIs48();
        secondByteCountsWhatIsBehind();
        below128();
        longFormsAreNone();
        numbersBeginWith2();
        numbersOf1To33Bytes();
        lengthBytesOfTheNumbers();
        firstByteBelow128();
        zeroAsTheOnlyByte();
        zeroBeforeTheNext();
        nothingBehind();
        nothingMissing();
        numbersThatRunOut();
        highestFirst();
        Check.end();
    }

    private static void judged(String what, int due, byte[] row) {
        Run run = new Run(what);
        run.message(TEXT);
        run.verdict(due, PUBLIC, row);
        run.gives(1, "count", 5 + due);
        run.gives(0, "count", 0);
    }

    private static void isNone(String what, byte[] row) {
        judged("no signature: " + what, 1, row);
    }

    private static void isNone(String hex) {
        isNone(hex, Hand.bytes(hex));
    }

    /** Two numbers of these bytes; the verdict tells that they were read. */
    private static void isOne(String what, int due, byte[] r, byte[] s) {
        judged("a signature: " + what, due, Reference.sequence(r, s));
    }

    private static void firstByteIs48() {
        for (int first = 0; first < 256; first++) {
            byte[] row = GOOD.clone();
            row[0] = (byte) first;
            judged("first byte " + first, first == 48 ? 0 : 1, row);
        }
    }

    private static void secondByteCountsWhatIsBehind() {
        for (int count = 0; count < 256; count++) {
            byte[] row = GOOD.clone();
            row[1] = (byte) count;
            judged("second byte " + count, count == GOOD.length - 2 ? 0 : 1, row);
            row = SHORT.clone();
            row[1] = (byte) count;
            judged("second byte " + count + " before 6", count == 6 ? 4 : 1, row);
        }
    }

    // The longest has 70 bytes behind the first two; a length that wraps round is none.
    private static void below128() {
        byte[] longest = new byte[33];
        Arrays.fill(longest, (byte) 127);
        isOne("70 bytes behind", 2, longest, longest);
        for (int behind : new int[] {71, 126, 127, 128, 129, 254, 255, 256, 257}) {
            byte[] row = new byte[behind + 2];
            System.arraycopy(GOOD, 0, row, 0, Math.min(GOOD.length, row.length));
            row[1] = (byte) behind;
            isNone(behind + " bytes behind", row);
            row[1] = GOOD[1];
            isNone(behind + " bytes behind, the number of the first", row);
            byte[] numbers = Reference.sequence(new byte[] {1}, Arrays.copyOf(ONE, behind - 5));
            isNone(behind + " bytes in numbers", numbers);
        }
        isNone("256 bytes more than it says", Arrays.copyOf(GOOD, GOOD.length + 256));
        isNone("256 bytes more than 6", Arrays.copyOf(SHORT, SHORT.length + 256));
        isNone("65,536 less some", Arrays.copyOf(SHORT, 9000));
    }

    private static void longFormsAreNone() {
        isNone("308106020101020101");
        isNone("30820006020101020101");
        isNone("3080020101020101");
        isNone("30800201010201010000");
        isNone("300702810101020101");
        isNone("300702010102810101");
        isNone("3006028101020101");
        isNone("30080282000101020101");
        byte[] behind = Arrays.copyOfRange(GOOD, 2, GOOD.length);
        isNone("a good one in the long form", Hand.join(new byte[] {48, (byte) 129, (byte) behind.length}, behind));
    }

    private static void numbersBeginWith2() {
        int second = 4 + GOOD[3];
        for (int tag = 0; tag < 256; tag++) {
            byte[] row = GOOD.clone();
            row[2] = (byte) tag;
            judged("r begins with " + tag, tag == 2 ? 0 : 1, row);
            row = GOOD.clone();
            row[second] = (byte) tag;
            judged("s begins with " + tag, tag == 2 ? 0 : 1, row);
        }
    }

    private static void numbersOf1To33Bytes() {
        for (int length = 0; length <= 60; length++) {
            byte[] number = new byte[length];
            Arrays.fill(number, (byte) 1);
            String what = "a number of " + length + " bytes";
            if (length >= 1 && length <= 33) {
                isOne(what + " as r", length == 33 ? 2 : 4, number, ONE);
                isOne(what + " as s", length == 33 ? 2 : 4, ONE, number);
                isOne(what + " as both", length == 33 ? 2 : 4, number, number);
            } else {
                isNone(what + " as r", Reference.sequence(number, ONE));
                isNone(what + " as s", Reference.sequence(ONE, number));
                isNone(what + " as both", Reference.sequence(number, number));
            }
        }
        isNone("300402000200");
        isNone("30050200020101");
        isNone("30050201010200");
    }

    private static void lengthBytesOfTheNumbers() {
        int second = 5 + GOOD[3];
        for (int length = 0; length < 256; length++) {
            byte[] row = GOOD.clone();
            row[3] = (byte) length;
            judged("r's length is " + length, length == GOOD[3] ? 0 : 1, row);
            row = GOOD.clone();
            row[second] = (byte) length;
            judged("s's length is " + length, length == GOOD[second] ? 0 : 1, row);
            row = SHORT.clone();
            row[3] = (byte) length;
            judged("r's length is " + length + " for 1", length == 1 ? 4 : 1, row);
            row = SHORT.clone();
            row[6] = (byte) length;
            judged("s's length is " + length + " for 1", length == 1 ? 4 : 1, row);
        }
    }

    private static void firstByteBelow128() {
        for (int length : new int[] {1, 2, 3, 31, 32, 33}) {
            for (int first : new int[] {1, 2, 126, 127, 128, 129, 254, 255}) {
                byte[] number = new byte[length];
                Arrays.fill(number, (byte) 200);
                number[0] = (byte) first;
                String what = length + " bytes that begin with " + first;
                if (first < 128) {
                    isOne(what + " as r", length == 33 ? 2 : 4, number, ONE);
                    isOne(what + " as s", length == 33 ? 2 : 4, ONE, number);
                } else {
                    isNone(what + " as r", Reference.sequence(number, ONE));
                    isNone(what + " as s", Reference.sequence(ONE, number));
                }
            }
        }
    }

    // 0 alone is in due form, and its number is out of range.
    private static void zeroAsTheOnlyByte() {
        byte[] zero = new byte[1];
        isOne("r is 0", 2, zero, ONE);
        isOne("s is 0", 2, ONE, zero);
        isOne("both are 0", 2, zero, zero);
        for (int length = 2; length <= 34; length++) {
            isNone(length + " zeros as r", Reference.sequence(new byte[length], ONE));
            isNone(length + " zeros as s", Reference.sequence(ONE, new byte[length]));
        }
    }

    private static void zeroBeforeTheNext() {
        for (int length : new int[] {2, 3, 31, 32, 33}) {
            for (int next : new int[] {0, 1, 126, 127, 128, 129, 254}) {
                byte[] number = new byte[length];
                Arrays.fill(number, (byte) 130);
                number[0] = 0;
                number[1] = (byte) next;
                String what = length + " bytes that begin with 0, " + next;
                if (next >= 128) {
                    isOne(what + " as r", 4, number, ONE);
                    isOne(what + " as s", 4, ONE, number);
                } else {
                    isNone(what + " as r", Reference.sequence(number, ONE));
                    isNone(what + " as s", Reference.sequence(ONE, number));
                }
            }
        }
        BigInteger[] numbers = Reference.numbersOf(GOOD);
        byte[] r = numbers[0].toByteArray();
        byte[] s = numbers[1].toByteArray();
        isOne("r and s with the 0 that is due", 0, r, s);
        isNone("r without it", Reference.sequence(Arrays.copyOfRange(r, 1, 33), s));
        isNone("s without it", Reference.sequence(r, Arrays.copyOfRange(s, 1, 33)));
        byte[] low = Reference.numbersOf(Reference.sign(SECRET, Hand.text("test")))[1].toByteArray();
        isNone("s with a 0 that is not due", Reference.sequence(r, Hand.join(new byte[1], low)));
    }

    private static void nothingBehind() {
        for (int last : new int[] {0, 1, 2, 48, 255}) {
            byte[] row = Arrays.copyOf(GOOD, GOOD.length + 1);
            row[GOOD.length] = (byte) last;
            isNone("a byte " + last + " behind", row);
            row[1]++;
            isNone("a byte " + last + " behind the numbers", row);
        }
        isNone("3009020101020101020101");
        isNone("30080201010201010500");
        isNone("30060201010201013006020101020101");
        isNone("itself twice", Hand.join(GOOD, GOOD));
        isNone("a byte before", Hand.join(new byte[1], GOOD));
    }

    // The bytes that are missing still stood on the tape before it was cut.
    private static void nothingMissing() {
        for (int length = 0; length <= GOOD.length; length++) {
            Run run = new Run("cut to " + length);
            run.message(TEXT);
            run.tape(Hand.join(PUBLIC, GOOD));
            run.gives(65 + length, "end", 65 + length);
            run.gives(length == GOOD.length ? 0 : 1, "verify");
            byte[] row = Arrays.copyOf(GOOD, length);
            if (length > 1 && length < GOOD.length) {
                row[1] = (byte) (length - 2);
                isNone("cut to " + length + ", which it says", row);
            }
        }
    }

    private static void numbersThatRunOut() {
        isNone("3000");
        isNone("300102");
        isNone("30020201");
        isNone("3003020101");
        isNone("300402010102");
        isNone("30050201010201");
        isNone("3006020101020201");
        isNone("3006020201020101");
        isNone("3006020501020101");
        isNone("3006020401020101");
        isNone("3006020301020101");
    }

    private static void highestFirst() {
        BigInteger[] numbers = Reference.numbersOf(GOOD);
        byte[] r = Reference.bytes32(numbers[0]);
        byte[] back = new byte[33];
        for (int i = 0; i < 32; i++) {
            back[1 + i] = r[31 - i];
        }
        back[0] = (byte) (back[1] < 0 ? 0 : 1);
        byte[] s = numbers[1].toByteArray();
        judged("r with the lowest first", back[0] == 0 ? 4 : 2, Reference.sequence(back, s));
        judged("s before r", 4, Reference.der(numbers[1], numbers[0]));
    }
}
