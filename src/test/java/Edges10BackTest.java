import java.math.BigInteger;

/**
 * Promise 10 at its edges: "THE RESULT comes to the end of the TAPE, its byte at that place exclusive-or'ed
 * with the low 8 bits of with (at -1: as it is): the TAPE's length." "No such byte." That "the TAPE has no
 * room for it", and which of the two exceptions comes first, is tested in Promise10BackTest, since no run of
 * 512 calls fills the tape.
 */
public final class Edges10BackTest {
    private static final BigInteger SECRET = BigInteger.valueOf(911382);
    private static final byte[] PUBLIC = Reference.publicKey(SECRET);

    public static void main(String[] args) {
        bothSidesOfThePlacesOfNothing();
        bothSidesOfThePlacesOfAPublicKey();
        bothSidesOfThePlacesOfASecret();
        bothSidesOfThePlacesOfASignature();
        everyPlace();
        theLow8BitsAlone();
        minusOneIsAsItIs();
        comesToTheEnd();
        theResultStays();
        changesNothingElse();
        Check.end();
    }

    private static Run opened(String title) {
        Run run = new Run(title);
        run.key(SECRET);
        run.gives(0, "open", 0);
        return run;
    }

    private static void placesAre(Run run, int length) {
        run.gives(3, "end", 3);
        run.refuses(IndexOutOfBoundsException.class, "back", -2, 1);
        run.refuses(IndexOutOfBoundsException.class, "back", length, 1);
        run.refuses(IndexOutOfBoundsException.class, "back", length + 1, 0);
        for (int at : new int[] {Integer.MIN_VALUE, Integer.MAX_VALUE, 72, 256, 65536, -256}) {
            run.refuses(IndexOutOfBoundsException.class, "back", at, 1);
        }
        run.gives(3, "count", 0);
        run.gives(3 + length, "back", -1, 1);
        run.gives(3 + 2 * length, "back", 0, 1);
        run.gives(3 + 3 * length, "back", length - 1, 1);
        run.showsAll();
    }

    private static void bothSidesOfThePlacesOfNothing() {
        Run run = new Run("no result");
        run.tape(Hand.text("abc"));
        run.refuses(IndexOutOfBoundsException.class, "back", -2, 1);
        run.refuses(IndexOutOfBoundsException.class, "back", 0, 1);
        run.refuses(IndexOutOfBoundsException.class, "back", 1, 0);
        run.gives(3, "back", -1, 1);
        run.tapeIs(Hand.text("abc"));
        run.gives(0, "end", 0);
        run.gives(0, "back", -1, 1);
        run.tapeIs(new byte[0]);
    }

    private static void bothSidesOfThePlacesOfAPublicKey() {
        Run run = opened("a public key");
        run.tape(Hand.text("abc"));
        placesAre(run, 65);
    }

    private static void bothSidesOfThePlacesOfASecret() {
        Run run = opened("a secret");
        run.gives(65, "back", -1, 0);
        run.gives(0, "agree", 0);
        run.tape(Hand.text("abc"));
        placesAre(run, 32);
    }

    private static void bothSidesOfThePlacesOfASignature() {
        Run run = opened("a signature");
        int length = Reference.sign(SECRET, Hand.text("m")).length;
        run.message(Hand.text("m"));
        run.gives(length, "sign", 0);
        run.tape(Hand.text("abc"));
        run.refuses(IndexOutOfBoundsException.class, "back", length, 1);
        run.gives(3 + length, "back", length - 1, 1);
    }

    private static void everyPlace() {
        for (int at = 0; at < 65; at++) {
            Run run = opened("place " + at);
            run.gives(65, "back", at, 0x5a);
            byte[] due = PUBLIC.clone();
            due[at] ^= 0x5a;
            run.tapeIs(due);
        }
    }

    private static void theLow8BitsAlone() {
        int[] numbers = {
            0, 1, 127, 128, 255, 256, 257, 511, 0xffff00, 0x7fffff80, -1, -128, -129, -255, -256,
            Integer.MIN_VALUE, Integer.MAX_VALUE
        };
        for (int with : numbers) {
            for (int at : new int[] {0, 33}) {
                Run run = opened("with " + with);
                run.gives(65, "back", at, with);
                byte[] due = PUBLIC.clone();
                due[at] = (byte) ((due[at] & 255) ^ (with & 255));
                run.tapeIs(due);
                run.resultIs(PUBLIC);
            }
        }
    }

    private static void minusOneIsAsItIs() {
        for (int with : new int[] {0, 1, 255, 256, -1, Integer.MIN_VALUE, Integer.MAX_VALUE}) {
            Run run = opened("as it is, with " + with);
            run.gives(65, "back", -1, with);
            run.tapeIs(PUBLIC);
            run.gives(0, "agree", 0);
        }
    }

    private static void comesToTheEnd() {
        Run run = opened("the end of the tape");
        run.tape(Hand.text("first"));
        run.gives(70, "back", 0, 1);
        run.gives(135, "back", -1, 0);
        run.gives(200, "back", 64, 255);
        byte[] one = PUBLIC.clone();
        one[0] ^= 1;
        byte[] three = PUBLIC.clone();
        three[64] ^= -1;
        run.tapeIs(Hand.join(Hand.text("first"), one, PUBLIC, three));
        run.gives(100, "end", 100);
        run.gives(165, "back", -1, 0);
        byte[] cut = java.util.Arrays.copyOf(Hand.join(Hand.text("first"), one, PUBLIC), 100);
        run.tapeIs(Hand.join(cut, PUBLIC));
    }

    // Only what comes to the tape is changed.
    private static void theResultStays() {
        Run run = opened("the result");
        run.gives(65, "back", 10, 255);
        run.resultIs(PUBLIC);
        run.gives(130, "back", 10, 255);
        run.gives(195, "back", -1, 255);
        byte[] changed = PUBLIC.clone();
        changed[10] ^= -1;
        run.tapeIs(Hand.join(changed, changed, PUBLIC));
        run.resultIs(PUBLIC);
    }

    private static void changesNothingElse() {
        Run run = opened("back and the rest");
        run.message(Hand.text("kept"));
        run.gives(65, "back", 5, 5);
        run.gives(1, "count", 1);
        run.messageIs(Hand.text("kept"));
        run.showsAll();
    }
}
