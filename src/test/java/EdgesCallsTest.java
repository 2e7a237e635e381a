import java.math.BigInteger;

/** "An object is used for at most 512 calls after it has been made": all of these answer, the last one too. */
public final class EdgesCallsTest {
    private static final BigInteger SECRET = Reference.N.subtract(BigInteger.TWO);

    public static void main(String[] args) {
        everyCallAsTheLast();
        refusedCallsCountToo();
        manySignatures();
        manyVerdicts();
        manyAgreements();
        Check.end();
    }

    private static Run late(String what) {
        Run run = new Run(what + " as the last call");
        run.key(SECRET);
        run.message(Hand.text("late"));
        return run;
    }

    private static void everyCallAsTheLast() {
        lastIs("feed", 1, 2, 3, 4, 5);
        lastIs("end", 32);
        lastIs("key");
        lastIs("open", 0);
        lastIs("message");
        lastIs("sign", 0);
        lastIs("back", -1, 0);
        lastIs("result", 64);
        lastIs("count", 0);
        lastIs("verify");
        lastIs("open", 1);
        lastIs("end", 33);
        lastIs("result", 65);
        lastIs("back", 65, 0);
        Run agree = late("agree");
        agree.call("open", 0);
        agree.call("back", -1, 0);
        agree.idleUntilLeft(1);
        agree.gives(0, "agree", 0);
        Run verify = late("a good verdict");
        verify.tape(Hand.join(Reference.publicKey(SECRET), Reference.sign(SECRET, Hand.text("late"))));
        verify.idleUntilLeft(1);
        verify.gives(0, "verify");
    }

    private static void lastIs(String name, int... numbers) {
        Run run = late(name);
        run.tape(Reference.bytes32(BigInteger.TEN));
        run.call("open", 0);
        run.idleUntilLeft(1);
        run.call(name, numbers);
        Check.same("calls left", run.left(), 0);
    }

    private static void refusedCallsCountToo() {
        Run run = late("a signature behind refused calls");
        while (run.left() > 1) {
            run.call("sign", 1);
        }
        run.gives(Reference.sign(SECRET, Hand.text("late")).length, "sign", 0);
    }

    private static void manySignatures() {
        Run run = late("sign");
        int made = 0;
        while (run.left() > 75) {
            run.call("sign", 0);
            made++;
        }
        run.gives(made, "count", 4);
        run.resultIs(Reference.sign(SECRET, Hand.text("late")));
    }

    private static void manyVerdicts() {
        Run run = late("verify");
        int good = 0;
        while (run.left() > 6) {
            run.call("open", 0);
            run.call("back", -1, 0);
            run.call("sign", 0);
            run.call("back", -1, 0);
            run.gives(0, "verify");
            good++;
        }
        run.gives(good, "count", 5);
    }

    // Each agreed secret becomes a key, the next one, until there are 100.
    private static void manyAgreements() {
        Run run = late("agree");
        while (run.left() > 5 && run.count(1) < 100) {
            run.call("open", run.count(1) - 1);
            run.call("back", -1, 0);
            run.call("agree", 0);
            run.call("back", -1, 0);
            run.call("key");
        }
        run.gives(100, "count", 1);
    }
}
