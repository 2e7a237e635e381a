import java.util.Random;

/** Runs of 512 calls, drawn by chance from a fixed start, on the program and on the Model side by side. */
public final class RunsTest {
    private static final int RUNS = 24;

    private final Run run;
    private final Random random;

    private RunsTest(int number) {
        run = new Run("run " + number);
        random = new Random(number);
    }

    public static void main(String[] args) {
        for (int run = 1; run <= RUNS; run++) {
            new RunsTest(run).go();
        }
        Check.end();
    }

    private void go() {
        while (run.left() > 20) {
            switch (random.nextInt(9)) {
                case 0:
                    feedSome();
                    break;
                case 1:
                    makeKey();
                    break;
                case 2:
                    run.call("message");
                    break;
                case 3:
                    signAndVerify();
                    break;
                case 4:
                    openAndAgree();
                    break;
                case 5:
                    run.call("back", place(), random.nextInt());
                    break;
                case 6:
                    run.call("end", random.nextInt(90) - 2);
                    break;
                case 7:
                    run.call("result", place());
                    break;
                default:
                    anyCall();
            }
        }
        for (int what = -1; what < 11; what++) {
            run.call("count", what);
        }
    }

    private void feedSome() {
        for (int i = random.nextInt(4); i > 0; i--) {
            feed();
        }
        if (random.nextBoolean()) {
            run.call("end", Math.max(0, run.count(0) - random.nextInt(20)));
        }
    }

    private void feed() {
        run.call("feed", word(), word(), word(), word(), word());
    }

    // Words with all bits alike come often, since they make numbers near the edges.
    private int word() {
        int kind = random.nextInt(6);
        return kind == 0 ? 0 : kind == 1 ? -1 : random.nextInt();
    }

    private void makeKey() {
        run.call("end", 0);
        feed();
        feed();
        run.call("end", random.nextInt(10) == 0 ? 31 + random.nextInt(3) : 32);
        run.call("key");
    }

    private void signAndVerify() {
        int key = someKey();
        if (random.nextInt(8) != 0) {
            run.call("end", 0);
        }
        run.call("open", key);
        run.call("back", random.nextInt(6) == 0 ? place() : -1, 1 << random.nextInt(8));
        run.call("sign", random.nextInt(8) == 0 ? someKey() : key);
        run.call("back", random.nextInt(3) == 0 ? place() : -1, 1 << random.nextInt(8));
        if (random.nextInt(8) == 0) {
            run.call("end", Math.max(0, run.count(0) - random.nextInt(3)));
        }
        run.call("verify");
    }

    private void openAndAgree() {
        if (random.nextInt(8) != 0) {
            run.call("end", 0);
        }
        run.call("open", someKey());
        run.call("back", random.nextInt(5) == 0 ? place() : -1, 1 << random.nextInt(8));
        run.call("agree", someKey());
    }

    private void anyCall() {
        String[] names = {"key", "open", "agree", "message", "sign", "verify", "count"};
        String name = names[random.nextInt(names.length)];
        if (name.equals("key") || name.equals("message") || name.equals("verify")) {
            run.call(name);
        } else {
            run.call(name, random.nextInt(12) - 1);
        }
    }

    private int someKey() {
        return random.nextInt(12) == 0 ? random.nextInt() : random.nextInt(run.count(1) + 1);
    }

    private int place() {
        return random.nextInt(12) == 0 ? random.nextInt() : random.nextInt(run.count(3) + 3) - 2;
    }
}
