import java.util.function.Predicate;

/**
 * The sentences of the document on exceptions: every method with every mix of arguments that are just inside, just
 * outside and far outside, on models of which some are not defined, and on such as make everything too large.
 */
final class ExceptionBoundaries {
    private static final String TERMS = "Terms";
    private static final int MOST = 100000000;
    private static final int MIN = Integer.MIN_VALUE;
    private static final int MAX = Integer.MAX_VALUE;
    private static final int[] MODEL = {MIN, -1, 0, 3, 4, 7, 8, MAX};
    private static final int[] EXPONENT = {MIN, -1, 0, 1, 2, 3, 4, MAX};
    private static final int[] BIT = {MIN, -1, 0, 1, 2, MAX};
    private static final int[] COORDINATE = {MIN, -1001, -1000, 0, 1000, 1001, MAX};
    private static final int[] SIZE = {MIN, -MOST - 1, -MOST, 0, MOST, MOST + 1, MAX};
    private static final String NO_MODEL = "Throws `IndexOutOfBoundsException` if there is no such model";
    private static final String NOT_IT = "Throws `NoSuchElementException` if it is not defined";
    private static final String NOT_BOTH = "Throws `NoSuchElementException` if first or second is not defined";
    private static final String TOO_LARGE = "Throws `IllegalStateException` if something would be too large";
    private static final String HUGE = "100000000 x2y0, 100000000 x0y2, -100000000 to 100000000";

    /** What a method of the face answers to these arguments. */
    private interface Answer {
        long to(TaylorModels m, int[] p);
    }

    private final String heading;
    private final String missing;
    private final String argument;
    private final String state;
    /** The parameters: t is a model that need not be defined, m one that must be, a dot is something else. */
    private final String kinds;
    private final Predicate<int[]> fine;
    private final Predicate<int[]> tooLarge;
    private final Answer answer;

    private ExceptionBoundaries(String heading, String kinds, String[] sentences, Predicate<int[]> fine,
            Predicate<int[]> tooLarge, Answer answer) {
        this.heading = heading;
        this.kinds = kinds;
        this.missing = sentences[0];
        this.argument = sentences[1];
        this.state = sentences[2];
        this.fine = fine;
        this.tooLarge = tooLarge;
        this.answer = answer;
    }

    static void check() {
        queries();
        operations();
        others();
        steps();
        nothingIsChanged();
    }

    private static void run(String heading, String kinds, String[] sentences, Predicate<int[]> fine,
            Predicate<int[]> tooLarge, Answer answer, int[]... values) {
        ExceptionBoundaries all = new ExceptionBoundaries(heading, kinds, sentences, fine, tooLarge, answer);
        all.every(new int[values.length], 0, values);
    }

    private void every(int[] p, int at, int[][] values) {
        if (at == values.length) {
            one(p, Check.holding("1000 x1y0, 0 to 0", "0 to 0", "0 to 0", "0 to 0", null, null, null, "0 to 0"), false);
            one(p, Check.holding(HUGE, HUGE, HUGE, HUGE, null, null, null, HUGE), true);
            return;
        }
        for (int value : values[at]) {
            p[at] = value;
            every(p, at + 1, values);
        }
    }

    private void one(int[] p, TaylorModels m, boolean huge) {
        String want = due(p, huge);
        long before = m.checksum();
        StringBuilder call = new StringBuilder(heading);
        for (int value : p) {
            call.append(' ').append(value);
        }
        String got = Check.outcome(() -> answer.to(m, p));
        if (want.isEmpty()) {
            Check.due(call + " throws", false, got.startsWith("throws."));
        } else {
            Check.due(call.toString(), want, got);
            Check.sentence(TERMS, "A method that throws an exception changes nothing.");
            Check.due(call + " leaves the models", before, m.checksum());
        }
    }

    /** The exception that is due; the one that the method lists first, if several apply. */
    private String due(int[] p, boolean huge) {
        boolean outside = false;
        boolean undefined = false;
        for (int k = 0; k < p.length; k++) {
            boolean model = kinds.charAt(k) != '.';
            outside |= model && (p[k] < 0 || p[k] > 7);
            undefined |= kinds.charAt(k) == 'm' && p[k] >= 4 && p[k] <= 6;
        }
        if (outside) {
            Check.sentence(heading, NO_MODEL);
            return "throws.IndexOutOfBoundsException";
        }
        if (undefined) {
            Check.sentence(heading, missing);
            return "throws.NoSuchElementException";
        }
        if (!fine.test(p)) {
            Check.sentence(heading, argument);
            return "throws.IllegalArgumentException";
        }
        if (huge && tooLarge.test(p)) {
            Check.sentence(heading, state);
            return "throws.IllegalStateException";
        }
        Check.sentence(TERMS, "If several exceptions apply to a call, the one that is listed first with the method is "
                + "thrown.");
        return "";
    }

    private static String[] sentences(String missing, String argument) {
        return new String[] {missing, argument, TOO_LARGE};
    }

    private static boolean isPlace(int i, int j) {
        return i >= 0 && i <= 3 && j >= 0 && j <= 3 && i + j <= 3;
    }

    private static boolean within(int n, int from, int to) {
        return from <= n && n <= to;
    }

    private static void queries() {
        String which = "Throws `IllegalArgumentException` if which is out of range";
        run("Promise 6: coefficient", "m..",
                sentences(NOT_IT, "Throws `IllegalArgumentException` if i or j is negative, or i + j is greater than 3"),
                p -> isPlace(p[1], p[2]), p -> false, (m, p) -> m.coefficient(p[0], p[1], p[2]),
                MODEL, EXPONENT, EXPONENT);
        run("Promise 7: remainder", "m.", sentences(NOT_IT, which), p -> within(p[1], 0, 1), p -> false,
                (m, p) -> m.remainder(p[0], p[1]), MODEL, BIT);
        run("Promise 8: bound", "m.", sentences(NOT_IT, which), p -> within(p[1], 0, 1), p -> false,
                (m, p) -> m.bound(p[0], p[1]), MODEL, BIT);
        run("Promise 9: value", "m...",
                sentences(NOT_IT, "Throws `IllegalArgumentException` if x, y or which is out of range"),
                p -> within(p[1], -1000, 1000) && within(p[2], -1000, 1000) && within(p[3], 0, 1), p -> false,
                (m, p) -> m.value(p[0], p[1], p[2], p[3]), MODEL, COORDINATE, COORDINATE, BIT);
        run("Promise 10: degree", "m", sentences(NOT_IT, ""), p -> true, p -> false, (m, p) -> m.degree(p[0]), MODEL);
        run("Promise 11: covers", "mm", sentences("Throws `NoSuchElementException` if one of them is not defined", ""),
                p -> true, p -> false, (m, p) -> Check.answerOf(m.covers(p[0], p[1])), MODEL, MODEL);
        run("Promise 12: reason", "mmm", sentences("Throws `NoSuchElementException` if one of them is not defined", ""),
                p -> true, p -> false, (m, p) -> m.reason(p[0], p[1], p[2]), MODEL, MODEL, MODEL);
    }

    private static void operations() {
        run("Promise 13: add", "tmm", sentences(NOT_BOTH, ""), p -> true, p -> true,
                (m, p) -> m.add(p[0], p[1], p[2]), MODEL, MODEL, MODEL);
        run("Promise 14: subtract", "tmm", sentences(NOT_BOTH, ""), p -> true, p -> true,
                (m, p) -> m.subtract(p[0], p[1], p[2]), MODEL, MODEL, MODEL);
        run("Promise 15: multiply", "tmm", sentences(NOT_BOTH, ""), p -> true, p -> true,
                (m, p) -> m.multiply(p[0], p[1], p[2]), MODEL, MODEL, MODEL);
        run("Promise 16: compose", "tmmm", new String[] {
            "Throws `NoSuchElementException` if outer, first or second is not defined", "",
            "Throws `IllegalStateException` if the composition is refused"}, p -> true, p -> true,
                (m, p) -> m.compose(p[0], p[1], p[2], p[3]), MODEL, MODEL, MODEL, MODEL);
        run("Promise 17: integrate", "tm.", sentences("Throws `NoSuchElementException` if model is not defined",
                "Throws `IllegalArgumentException` if variable is out of range"), p -> within(p[2], 0, 1), p -> true,
                (m, p) -> m.integrate(p[0], p[1], p[2]), MODEL, MODEL, BIT);
    }

    private static void others() {
        run("Promise 19: sweep", "m.", sentences(NOT_IT, "Throws `IllegalArgumentException` if limit is out of range"),
                p -> within(p[1], 0, MOST), p -> p[1] == MOST, (m, p) -> m.sweep(p[0], p[1]),
                MODEL, new int[] {MIN, -MOST, -1, 0, 1, MOST - 1, MOST, MOST + 1, MAX});
        run("Promise 20: wrap", "m.", sentences(NOT_IT, "Throws `IllegalArgumentException` if variable is out of range"),
                p -> within(p[1], 0, 1), p -> true, (m, p) -> m.wrap(p[0], p[1]), MODEL, BIT);
        run("Promise 21: setCoefficient", "m...", sentences(NOT_IT, "Throws `IllegalArgumentException` if i or j is "
                + "negative, i + j is greater than 3, or value is out of range"),
                p -> isPlace(p[1], p[2]) && within(p[3], -MOST, MOST), p -> false,
                (m, p) -> m.setCoefficient(p[0], p[1], p[2], p[3]), MODEL, EXPONENT, EXPONENT, SIZE);
        int[] ends = {MIN, -MOST - 1, -MOST, -1, 0, 1, MOST, MOST + 1, MAX};
        run("Promise 22: setRemainder", "m..",
                sentences(NOT_IT, "Throws `IllegalArgumentException` if low or high is out of range"),
                p -> within(p[1], -MOST, MOST) && within(p[2], p[1], MOST), p -> false,
                (m, p) -> m.setRemainder(p[0], p[1], p[2]), MODEL, ends, ends);
        run("Promise 23: clear", "t", sentences("", ""), p -> true, p -> false,
                (m, p) -> Check.answerOf(m.clear(p[0])), MODEL);
    }

    /** A step with each set of the four models defined; the other four are, and make no difference. */
    private static void steps() {
        int[] most = {MIN, -1, 0, 1, 20, 21, MAX};
        for (int defined = 0; defined < 16; defined++) {
            for (int h : COORDINATE) {
                for (int times : most) {
                    TaylorModels m = Check.loaded("models;a=x*0;b=0;c=0;d=0;e=0;f=0;g=0;h=0;");
                    for (int k = 0; k < 4; k++) {
                        if ((defined >> k & 1) == 0) {
                            m.clear(k);
                        }
                    }
                    step(m, defined == 15, h, times);
                }
            }
        }
    }

    private static void step(TaylorModels m, boolean defined, int h, int most) {
        String heading = "Promise 18: step";
        String want = Integer.toString(most);
        if (!defined) {
            Check.sentence(heading, "Throws `NoSuchElementException` if one of these four models is not defined");
            want = "throws.NoSuchElementException";
        } else if (!within(h, -1000, 1000) || !within(most, 1, 20)) {
            Check.sentence(heading, "Throws `IllegalArgumentException` if h or most is out of range");
            want = "throws.IllegalArgumentException";
        }
        long before = m.checksum();
        Check.due("step(" + h + ", " + most + ")", want, Check.outcome(() -> m.step(h, most)));
        Check.due("the models afterwards", before, m.checksum());
    }

    private static void nothingIsChanged() {
        Check.sentence(TERMS, "IndexOutOfBoundsException is thrown if one of them is not 0 to 7, and NoSuchElementException "
                + "if one of them other than target is not defined (the target of sweep, wrap, setCoefficient and "
                + "setRemainder must be defined, too).");
        TaylorModels m = Check.loaded("models;a=x;");
        for (int target = 1; target <= 7; target++) {
            int t = target;
            Check.dueThrows("sweep(" + t + ", 0)", java.util.NoSuchElementException.class, () -> m.sweep(t, 0));
            Check.dueThrows("wrap(" + t + ", 0)", java.util.NoSuchElementException.class, () -> m.wrap(t, 0));
            Check.due("add(" + t + ", 0, 0)", 0, m.add(t, 0, 0));
            Check.due("undo()", 1, m.undo());
        }
        Check.sentence(TERMS, "A method that throws an exception changes nothing.");
        TaylorModels n = Check.holding(HUGE, "0 to 0");
        for (int k = 0; k < 9; k++) {
            n.setCoefficient(1, 0, 0, k);
        }
        Check.due("a load with an error", TaylorModels.SYNTAX_ERROR, Check.load(n, "models;?"));
        n.append(0x6d6f6465, 0x6c733b20, 0x20202020, 0x20202020, 0x20202020);
        Answer[] calls = {(x, p) -> x.load(21), (x, p) -> x.load(-1), (x, p) -> x.add(0, 0, 0), (x, p) -> x.add(0, 0, 7),
            (x, p) -> x.add(0, 0, 8), (x, p) -> x.subtract(0, 0, 0), (x, p) -> x.multiply(0, 0, 0),
            (x, p) -> x.compose(0, 0, 0, 0), (x, p) -> x.integrate(0, 0, 0), (x, p) -> x.integrate(0, 0, 2),
            (x, p) -> x.step(0, 1), (x, p) -> x.sweep(0, MOST), (x, p) -> x.wrap(0, 0),
            (x, p) -> x.setCoefficient(0, 0, 0, MAX), (x, p) -> x.setRemainder(0, 1, 0),
            (x, p) -> Check.answerOf(x.clear(8)), (x, p) -> x.reason(0, 0, 7), (x, p) -> x.value(0, 0, 0, 2)};
        long before = n.checksum();
        for (int k = 0; k < calls.length; k++) {
            Answer call = calls[k];
            Check.due("whether call " + k + " throws", true, Check.outcome(() -> call.to(n, null)).startsWith("throws."));
            Check.due("the models after call " + k, before, n.checksum());
            Check.due("the error offset after call " + k, 7, n.errorOffset());
        }
        Check.due("the latest change is still the latest", 7, n.undo());
        Check.due("it was this", 7, n.coefficient(1, 0, 0));
        Check.due("the input buffer", 40, n.append(-1, -1, -1, -1, -1));
        Check.due("its first bytes", 0, n.load(20));
    }
}
