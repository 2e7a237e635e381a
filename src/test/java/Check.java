import java.util.Arrays;
import java.util.HexFormat;

/** Counts and prints what is not as due; the tests end by way of it. */
final class Check {
    // One fault can spoil thousands of answers, and the first ones tell it.
    private static final int TOLD = 40;
    private static int done = 0;
    private static int wrong = 0;

    private Check() {
    }

    static void same(String what, long got, long due) {
        done++;
        if (got != due) {
            tell(what + " is " + got + ", due is " + due);
        }
    }

    static void same(String what, byte[] got, byte[] due) {
        done++;
        if (!Arrays.equals(got, due)) {
            tell(what + " is " + hex(got) + ", due is " + hex(due));
        }
    }

    static void same(String what, String got, String due) {
        done++;
        if (!got.equals(due)) {
            tell(what + " is " + got + ", due is " + due);
        }
    }

    static void isTrue(String what, boolean got) {
        done++;
        if (!got) {
            tell(what + " does not hold");
        }
    }

    /** The call throws just this exception, and all that can be seen of the object stays as it was. */
    static void refuses(String what, PrimeKeys x, Class<? extends RuntimeException> due, Runnable call) {
        String before = Hand.sight(x);
        String thrown = "nothing";
        try {
            call.run();
        } catch (RuntimeException e) {
            thrown = e.getClass().getName();
        }
        same(what + " throws", thrown, due.getName());
        same(what + " leaves", Hand.sight(x), before);
    }

    static void end() {
        if (done == 0) {
            tell("nothing was checked");
        }
        if (wrong > 0) {
            System.out.println(wrong + " of " + done + " answers are not as due");
            System.exit(1);
        }
    }

    private static String hex(byte[] row) {
        return HexFormat.of().formatHex(row);
    }

    private static void tell(String text) {
        wrong++;
        if (wrong <= TOLD) {
            System.out.println(text);
        }
    }
}
