import java.util.Random;

/** Runs of 512 calls, drawn by chance from a fixed start, on the program and on the Model side by side. */
public final class RunsTest {
    private static final int RUNS = 24;
    private static final int CALLS = 512;

    private final PrimeKeys x = new PrimeKeys();
    private final Model model = new Model();
    private final Random random;
    private final int run;
    private int calls = 0;

    private RunsTest(int run) {
        this.run = run;
        random = new Random(run);
    }

    public static void main(String[] args) {
        for (int run = 1; run <= RUNS; run++) {
            new RunsTest(run).go();
        }
        Check.end();
    }

    private void go() {
        while (calls < CALLS - 20) {
            switch (random.nextInt(9)) {
                case 0:
                    feedSome();
                    break;
                case 1:
                    makeKey();
                    break;
                case 2:
                    call("message");
                    break;
                case 3:
                    signAndVerify();
                    break;
                case 4:
                    openAndAgree();
                    break;
                case 5:
                    call("back", place(), random.nextInt());
                    break;
                case 6:
                    call("end", random.nextInt(90) - 2);
                    break;
                case 7:
                    call("result", place());
                    break;
                default:
                    anyCall();
            }
        }
        for (int what = -1; what < 11; what++) {
            call("count", what);
        }
    }

    private void feedSome() {
        for (int i = random.nextInt(4); i > 0; i--) {
            feed();
        }
        if (random.nextBoolean()) {
            call("end", Math.max(0, model.count(0) - random.nextInt(20)));
        }
    }

    private void feed() {
        call("feed", word(), word(), word(), word(), word());
    }

    // Words with all bits alike come often, since they make numbers near the edges.
    private int word() {
        int kind = random.nextInt(6);
        return kind == 0 ? 0 : kind == 1 ? -1 : random.nextInt();
    }

    private void makeKey() {
        call("end", 0);
        feed();
        feed();
        call("end", random.nextInt(10) == 0 ? 31 + random.nextInt(3) : 32);
        call("key");
    }

    private void signAndVerify() {
        int key = someKey();
        if (random.nextInt(8) != 0) {
            call("end", 0);
        }
        call("open", key);
        call("back", random.nextInt(6) == 0 ? place() : -1, 1 << random.nextInt(8));
        call("sign", random.nextInt(8) == 0 ? someKey() : key);
        call("back", random.nextInt(3) == 0 ? place() : -1, 1 << random.nextInt(8));
        if (random.nextInt(8) == 0) {
            call("end", Math.max(0, model.count(0) - random.nextInt(3)));
        }
        call("verify");
    }

    private void openAndAgree() {
        if (random.nextInt(8) != 0) {
            call("end", 0);
        }
        call("open", someKey());
        call("back", random.nextInt(5) == 0 ? place() : -1, 1 << random.nextInt(8));
        call("agree", someKey());
    }

    private void anyCall() {
        String[] names = {"key", "open", "agree", "message", "sign", "verify", "count"};
        String name = names[random.nextInt(names.length)];
        if (name.equals("key") || name.equals("message") || name.equals("verify")) {
            call(name);
        } else {
            call(name, random.nextInt(12) - 1);
        }
    }

    private int someKey() {
        return random.nextInt(12) == 0 ? random.nextInt() : random.nextInt(model.count(1) + 1);
    }

    private int place() {
        return random.nextInt(12) == 0 ? random.nextInt() : random.nextInt(model.count(3) + 3) - 2;
    }

    private void call(String name, int... a) {
        calls++;
        StringBuilder text = new StringBuilder("run " + run + ", call " + calls + ": " + name);
        for (int number : a) {
            text.append(' ').append(number);
        }
        Check.same(text.toString(), answer(false, name, a), answer(true, name, a));
    }

    private String answer(boolean due, String name, int[] a) {
        try {
            return String.valueOf(due ? ofModel(name, a) : ofProgram(name, a));
        } catch (RuntimeException e) {
            return e.getClass().getName();
        }
    }

    private int ofModel(String name, int[] a) {
        return switch (name) {
            case "feed" -> model.feed(a[0], a[1], a[2], a[3], a[4]);
            case "end" -> model.end(a[0]);
            case "key" -> model.key();
            case "open" -> model.open(a[0]);
            case "agree" -> model.agree(a[0]);
            case "message" -> model.message();
            case "sign" -> model.sign(a[0]);
            case "verify" -> model.verify();
            case "back" -> model.back(a[0], a[1]);
            case "result" -> model.result(a[0]);
            default -> model.count(a[0]);
        };
    }

    private int ofProgram(String name, int[] a) {
        switch (name) {
            case "open":
                x.open(a[0]);
                return 0;
            case "agree":
                x.agree(a[0]);
                return 0;
            default:
                return ofProgramAnswering(name, a);
        }
    }

    private int ofProgramAnswering(String name, int[] a) {
        return switch (name) {
            case "feed" -> x.feed(a[0], a[1], a[2], a[3], a[4]);
            case "end" -> x.end(a[0]);
            case "key" -> x.key();
            case "message" -> x.message();
            case "sign" -> x.sign(a[0]);
            case "verify" -> x.verify();
            case "back" -> x.back(a[0], a[1]);
            case "result" -> x.result(a[0]);
            default -> x.count(a[0]);
        };
    }
}
