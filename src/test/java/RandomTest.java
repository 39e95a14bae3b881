import java.nio.charset.StandardCharsets;
import java.util.Map;
import java.util.Random;
import java.util.TreeMap;

/** Random runs of calls, and random setup texts, answered by the class and by the Oracle. */
final class RandomTest {
    private static final int RUNS = 4000;
    private static final int RUNS_OF_TEXTS = 4000;
    /** An object answers 512 calls; a run begins nothing after this many, as the longest text takes some 40. */
    private static final int CALLS = 440;
    private static final int MOST = 100000000;
    private static final int[] SIZES = {1, 3, 10, 100, 400, 1000, 2000, 30000, 1000000, 100000000};
    private static final String[] NOISE = {"x", "y", "a", "h", "i", "(", ")", "[", "]", ",", "+", "-", "*", "#", ";",
        "=", " ", "intx", "inty", "models", "100000", "100001", "0", "7", "$", "\t", "\u00ff", "((((", "a[", "100000*"};

    private final Random random;
    private final TaylorModels models = new TaylorModels();
    private final Oracle oracle = new Oracle();
    /** Whether numbers are often near the largest ones, so that much becomes too large. */
    private final boolean large;
    private int calls = 0;
    /** How often each kind of answer was due: a test that never meets a refusal would prove little. */
    private static final Map<String, Integer> MET = new TreeMap<>();

    private RandomTest(long seed) {
        random = new Random(seed);
        large = seed % 3 == 0;
    }

    public static void main(String[] args) {
        for (int run = 0; run < RUNS; run++) {
            new RandomTest(run).run("run " + run);
        }
        for (int run = 0; run < RUNS_OF_TEXTS; run++) {
            RandomTest texts = new RandomTest(-1 - run);
            while (texts.calls < CALLS) {
                texts.text("run " + run + " of texts: ");
            }
        }
        String[] kinds = {"load -2", "load -3", "load -4", "load -5", "load -6", "load fine", "compose fine",
            "compose IllegalStateException", "reason 0", "reason 1", "reason 2", "reason 3", "step 0", "step 20",
            "step some", "covers 0", "covers 1", "multiply fine", "multiply IllegalStateException",
            "add IllegalStateException", "subtract IllegalStateException", "integrate IllegalStateException",
            "sweep IllegalStateException", "wrap IllegalStateException", "wrap fine", "undo none", "undo fine"};
        for (String kind : kinds) {
            Check.due("enough of: " + kind, true, MET.getOrDefault(kind, 0) >= 20);
        }
        if (args.length > 0) {
            System.out.println(MET);
        }
        Check.finish("RandomTest");
    }

    private static void met(String kind) {
        MET.merge(kind, 1, Integer::sum);
    }

    private void both(String call, Check.Call ofClass, Check.Call ofOracle, String kind) {
        calls++;
        String want = Check.outcome(ofOracle);
        Check.due(call, want, Check.outcome(ofClass));
        if (want.startsWith("throws.")) {
            met(kind + " " + want.substring(7));
        } else if (kind.equals("reason") || kind.equals("covers")) {
            met(kind + " " + want);
        } else if (kind.equals("step")) {
            met(kind + " " + (want.equals("0") || want.equals("20") ? want : "some"));
        } else if (kind.equals("load") && want.startsWith("-")) {
            met(kind + " " + want);
        } else {
            met(kind + " " + (kind.equals("undo") && want.equals("-1") ? "none" : "fine"));
        }
    }

    private int model() {
        int n = random.nextInt(80);
        return n == 0 ? 8 : n == 1 ? -1 : n % 8;
    }

    private int number() {
        if (large && random.nextInt(3) > 0) {
            int n = MOST - (random.nextInt(3) == 0 ? 0 : random.nextInt(2000));
            return random.nextBoolean() ? n : -n;
        }
        int size = SIZES[random.nextInt(SIZES.length)];
        return random.nextInt(2 * size + 1) - size;
    }

    private int exponent() {
        int n = random.nextInt(40);
        return n == 0 ? -1 : n == 1 ? 4 : n % 3 == 0 ? n % 4 : n % 2;
    }

    private int bit() {
        int n = random.nextInt(40);
        return n == 0 ? 2 : n == 1 ? -1 : n % 2;
    }

    private void run(String name) {
        send(name, "models;a=x*300;b=y*300;c=y+x*x*200;d=x*y-500#3;e=x*900#50;f=x;g=0-y;h=1000;");
        while (calls < CALLS) {
            String call = name + ", call " + calls + ": ";
            int kind = random.nextInt(20);
            if (kind < 10) {
                operation(call, kind);
            } else {
                setting(call, kind);
            }
            queries(call);
            both(call + "checksum()", models::checksum, oracle::checksum, "checksum");
            both(call + "defined()", models::defined, oracle::defined, "defined");
        }
    }

    private void operation(String call, int kind) {
        int t = model();
        int a = model();
        int b = model();
        int c = model();
        int v = bit();
        switch (kind) {
            case 0 -> both(call + "add", () -> models.add(t, a, b), () -> oracle.operate("add", t, a, b), "add");
            case 1 -> both(call + "subtract", () -> models.subtract(t, a, b),
                    () -> oracle.operate("subtract", t, a, b), "subtract");
            case 2, 3 -> both(call + "multiply", () -> models.multiply(t, a, b),
                    () -> oracle.operate("multiply", t, a, b), "multiply");
            case 4, 5, 6 -> {
                both(call + "reason", () -> models.reason(c, a, b), () -> oracle.reason(c, a, b), "reason");
                both(call + "compose", () -> models.compose(t, c, a, b), () -> oracle.compose(t, c, a, b), "compose");
            }
            case 7 -> both(call + "integrate", () -> models.integrate(t, a, v), () -> oracle.integrate(t, a, v),
                    "integrate");
            default -> {
                int h = random.nextInt(50) == 0 ? number() : random.nextInt(2001) - 1000;
                int most = random.nextInt(22);
                both(call + "step", () -> models.step(h, most), () -> oracle.step(h, most), "step");
            }
        }
    }

    private void setting(String call, int kind) {
        int t = model();
        int i = exponent();
        int j = exponent();
        int v = bit();
        int n = random.nextInt(200) == 0 ? random.nextInt() : number();
        int more = random.nextInt(30) == 0 ? -1 : Math.abs(number());
        switch (kind) {
            case 10 -> both(call + "sweep", () -> models.sweep(t, more), () -> oracle.sweep(t, more), "sweep");
            case 11 -> both(call + "wrap", () -> models.wrap(t, v), () -> oracle.wrap(t, v), "wrap");
            case 12, 13 -> both(call + "setCoefficient", () -> models.setCoefficient(t, i, j, n),
                    () -> oracle.setCoefficient(t, i, j, n), "setCoefficient");
            case 14 -> {
                int low = random.nextBoolean() ? n : -more;
                int high = random.nextBoolean() ? low + more : more;
                both(call + "setRemainder", () -> models.setRemainder(t, low, high),
                        () -> oracle.setRemainder(t, low, high), "setRemainder");
            }
            case 15 -> {
                if (random.nextInt(4) == 0) {
                    both(call + "clear", () -> Check.answerOf(models.clear(t)),
                            () -> Check.answerOf(oracle.clear(t)), "clear");
                }
            }
            case 16, 17 -> {
                int times = random.nextInt(4) == 0 ? random.nextInt(10) : 1;
                for (int k = 0; k < times; k++) {
                    both(call + "undo", models::undo, oracle::undo, "undo");
                }
            }
            case 18 -> text(call);
            default -> send(call, "models;a=x*" + random.nextInt(900) + ";b=y*" + random.nextInt(900)
                    + "+70;c=(" + sum(0) + ")*" + random.nextInt(400) + ";d=(" + sum(0) + ")*" + random.nextInt(400)
                    + ";e=" + sum(1) + ";f=" + sum(1) + "#" + random.nextInt(200) + ";g=x;h=y*999#1;");
        }
    }

    private void queries(String call) {
        int m = model();
        int o = model();
        int i = exponent();
        int j = exponent();
        int v = bit();
        int x = random.nextInt(2004) - 1002;
        int y = random.nextInt(2004) - 1002;
        switch (random.nextInt(6)) {
            case 0 -> both(call + "coefficient", () -> models.coefficient(m, i, j), () -> oracle.coefficient(m, i, j),
                    "coefficient");
            case 1 -> both(call + "remainder", () -> models.remainder(m, v), () -> oracle.remainder(m, v), "remainder");
            case 2 -> both(call + "bound", () -> models.bound(m, v), () -> oracle.bound(m, v), "bound");
            case 3 -> both(call + "value", () -> models.value(m, x, y, v), () -> oracle.value(m, x, y, v), "value");
            case 4 -> both(call + "degree", () -> models.degree(m), () -> oracle.degree(m), "degree");
            default -> both(call + "covers", () -> Check.answerOf(models.covers(m, o)),
                    () -> Check.answerOf(oracle.covers(m, o)), "covers");
        }
    }

    private void send(String call, String text) {
        byte[] bytes = text.getBytes(StandardCharsets.ISO_8859_1);
        int sent = 0;
        while (sent < bytes.length) {
            int[] w = new int[5];
            for (int k = 0; k < 20; k++) {
                w[k / 4] = w[k / 4] << 8 | (sent + k < bytes.length ? bytes[sent + k] & 255 : ' ');
            }
            both(call + "append", () -> models.append(w[0], w[1], w[2], w[3], w[4]), () -> oracle.append(w), "append");
            sent += 20;
        }
        int length = random.nextInt(30) == 0 ? random.nextInt(720) - 5 : Math.min(bytes.length, 700);
        both(call + "load of " + text, () -> models.load(length), () -> oracle.load(length), "load");
        both(call + "errorOffset() of " + text, models::errorOffset, oracle::errorOffset, "errorOffset");
        both(call + "checksum() of " + text, models::checksum, oracle::checksum, "checksum");
    }

    private void text(String call) {
        StringBuilder text = new StringBuilder("models;");
        if (random.nextInt(5) > 0) {
            text.append("a=x*600;b=500*y+300;c=x*y#40;d=x*x-y*100000;");
        }
        int statements = random.nextInt(7);
        for (int k = 0; k < statements; k++) {
            text.append((char) ('a' + random.nextInt(random.nextInt(8) == 0 ? 9 : 4)));
            text.append('=').append(sum(0));
            if (random.nextInt(3) == 0) {
                text.append('#').append(constant());
            }
            text.append(';');
        }
        int changes = random.nextInt(3) == 0 ? random.nextInt(3) : 0;
        for (int k = 0; k < changes; k++) {
            int at = random.nextInt(text.length() + 1);
            int end = random.nextBoolean() ? at : Math.min(text.length(), at + random.nextInt(3));
            text.replace(at, end, NOISE[random.nextInt(NOISE.length)]);
        }
        send(call, text.toString());
    }

    private String constant() {
        int n = random.nextInt(12);
        if (n == 0) {
            return "100000";
        }
        return random.nextInt(150) == 0 ? "100001" : Integer.toString(random.nextInt(n < 6 ? 1000 : n * 200));
    }

    private String sum(int depth) {
        StringBuilder text = new StringBuilder(term(depth));
        while (random.nextInt(3) == 0) {
            text.append(random.nextInt(4) == 0 ? " " : "").append(random.nextBoolean() ? '+' : '-').append(term(depth));
        }
        return text.toString();
    }

    private String term(int depth) {
        StringBuilder text = new StringBuilder(factor(depth));
        while (random.nextInt(5) < 2) {
            text.append(random.nextInt(9) == 0 ? "  *" : "*").append(factor(depth));
        }
        return text.toString();
    }

    private String factor(int depth) {
        int kind = random.nextInt(depth > 5 ? 6 : 10);
        return switch (kind) {
            case 0, 1 -> "x";
            case 2 -> "y";
            case 3, 4 -> constant();
            case 5, 6 -> random.nextInt(3) > 0 ? "x" : String.valueOf((char) ('a' + random.nextInt(4)));
            case 7 -> "(" + sum(depth + 1) + ")";
            case 8 -> (random.nextBoolean() ? "intx(" : "inty( ") + sum(depth + 1) + ")";
            default -> (char) ('a' + random.nextInt(3)) + "[" + small(depth) + "," + small(depth) + "]";
        };
    }

    private String small(int depth) {
        return switch (random.nextInt(4)) {
            case 0 -> "x";
            case 1 -> random.nextInt(1000) + "*y";
            case 2 -> "400*x-" + random.nextInt(700);
            default -> sum(depth + 1);
        };
    }
}
