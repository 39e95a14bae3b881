import java.util.ArrayDeque;
import java.util.Deque;
import java.util.NoSuchElementException;

/** The sentences of "Changes" and of promises 13 to 24 that name a boundary case, beside the exceptions. */
final class ChangeBoundaries {
    private static final String TERMS = "Terms";
    private static final int MOST = 100000000;
    private static final String STEP = "Promise 18: step";
    private static final String SWEEP = "Promise 19: sweep";

    /** A call of the face with these models and numbers. */
    private interface Change {
        long make(TaylorModels m);
    }

    private ChangeBoundaries() {
    }

    static void check() {
        widths();
        targets();
        variables();
        stepsUntilRefused();
        mostSteps();
        rangeOfH();
        refusedStep();
        sweepLimits();
        sweptCount();
        wraps();
        coefficients();
        remainders();
        clears();
        everyChange();
        noChange();
        eightChanges();
        undoneAndNot();
        undoLeaves();
        nothingToUndo();
    }

    private static void widths() {
        String[] one = {"1 x0y0, -5 to 7", "1 x0y0, 3 to 3"};
        String width = "Returns the width of its remainder then";
        Check.sentence("Promise 13: add", width + " (the upper end minus the lower end).");
        Check.due("width of a sum", 12, Check.holding(one).add(2, 0, 1));
        Check.due("width of a sum of points", 0, Check.holding(one).add(1, 1, 1));
        Check.due("the greatest width", 2 * MOST, Check.holding("-100000000 to 100000000", "0 to 0").add(7, 0, 1));
        Check.sentence("Promise 14: subtract", width);
        Check.due("width of a difference", 12, Check.holding(one).subtract(2, 0, 1));
        Check.due("width of a difference with itself", 24, Check.holding(one).subtract(2, 0, 0));
        Check.due("width of a difference of points", 0, Check.holding(one).subtract(2, 1, 1));
        Check.sentence("Promise 15: multiply", width);
        Check.due("width of an exact product", 0, Check.holding("1000 x0y0, 0 to 0", one[0]).multiply(2, 0, 0));
        Check.due("width of a product", 12, Check.holding("1000 x0y0, 0 to 0", one[0]).multiply(2, 0, 1));
        Check.due("width of a rounded product", 1, Check.holding("999 x0y0, 0 to 0").multiply(2, 0, 0));
        Check.sentence("Promise 16: compose", width);
        Check.due("width of a composition", 12, Check.holding(one).compose(2, 0, 1, 1));
        Check.due("width of another one", 0, Check.holding(one).compose(2, 1, 0, 0));
        Check.sentence("Promise 17: integrate", width);
        Check.due("width of an antiderivative", 14, Check.holding(one).integrate(2, 0, 0));
        Check.due("width of that of a point", 6, Check.holding(one).integrate(1, 1, 1));
        Check.due("width of an exact one", 0, Check.holding("2 x1y0, 0 to 0").integrate(1, 0, 0));
    }

    /** The target may be one of the others, or one that is not defined; nothing else becomes defined. */
    private static void targets() {
        String a = "500 x1y0, -5 to 7";
        String b = "1000 x0y1, 0 to 1";
        for (int target = 0; target < 8; target++) {
            int t = target;
            int defined = 3 | 1 << t;
            Check.sentence("Promise 13: add", "The target becomes the sum of two models.");
            becomes("add", m -> m.add(t, 0, 1), t, defined, "1000 x0y1, 500 x1y0, -5 to 8", a, b);
            Check.sentence("Promise 14: subtract", "The target becomes the first model minus the second one.");
            becomes("subtract", m -> m.subtract(t, 0, 1), t, defined, "-1000 x0y1, 500 x1y0, -6 to 7", a, b);
            Check.sentence("Promise 15: multiply", "The target becomes the product of two models.");
            becomes("multiply", m -> m.multiply(t, 0, 1), t, defined, "500 x1y1, -8 to 8", a, b);
            Check.sentence("Promise 16: compose", "The target becomes outer[first, second].");
            becomes("compose", m -> m.compose(t, 0, 0, 0), t, defined, "250 x1y0, -8 to 11", a, b);
            Check.sentence("Promise 17: integrate", "The target becomes the antiderivative of a model.");
            becomes("integrate", m -> m.integrate(t, 0, 1), t, defined, "500 x1y1, -7 to 7", a, b);
        }
    }

    private static void becomes(String call, Change change, int target, int defined, String want, String a, String b) {
        TaylorModels m = Check.holding(a, b);
        Check.due(call + " to " + target, want, Check.becomes(m, target, () -> change.make(m)));
        Check.due("the models defined then", defined, m.defined());
        Check.due("the first", target == 0 ? want : a, Check.shown(m, 0));
        Check.due("the second", target == 1 ? want : b, Check.shown(m, 1));
    }

    private static void variables() {
        TaylorModels m = Check.holding("12 x0y0, 0 to 0");
        Class<IllegalArgumentException> argument = IllegalArgumentException.class;
        Check.sentence("Promise 17: integrate", "- `variable`: 0 by x, 1 by y");
        Check.due("by x", "12 x1y0, 0 to 0", Check.becomes(m, 1, () -> m.integrate(1, 0, 0)));
        Check.due("by y", "12 x0y1, 0 to 0", Check.becomes(m, 1, () -> m.integrate(1, 0, 1)));
        Check.dueThrows("by variable -1", argument, () -> m.integrate(1, 0, -1));
        Check.dueThrows("by variable 2", argument, () -> m.integrate(1, 0, 2));
        Check.sentence("Promise 20: wrap", "- `variable`: 0 for x, 1 for y");
        m.setRemainder(0, -5, 5);
        Check.due("for x", "12 x0y0, 5 x1y0, 0 to 0", Check.becomes(m, 0, () -> m.wrap(0, 0)));
        Check.due("for y", "12 x0y0, 5 x0y1, 0 to 0", Check.becomes(m, 0, () -> m.wrap(0, 1)));
        Check.dueThrows("for variable -1", argument, () -> m.wrap(0, -1));
        Check.dueThrows("for variable 2", argument, () -> m.wrap(0, 2));
    }

    /** X goes on by 100 at each step, and is refused as soon as it has left the square. */
    private static void stepsUntilRefused() {
        Check.sentence(STEP, "Makes steps of the models a and b (as X and Y) with the models c and d (as F and G), one after "
                + "the other, until one is refused (a composition that is not possible, or something that would be too "
                + "large), but at most a number of times.");
        Check.sentence(STEP, "Returns the number of steps that were made.");
        for (int start = -1000; start <= 1001; start += 667) {
            int possible = (1000 - start) / 100 + 1;
            for (int most = 1; most <= 20; most++) {
                TaylorModels m = Check.holding(start + " x0y0, 0 to 0", "0 to 0", "100 x0y0, 0 to 0", "0 to 0");
                int made = start > 1000 ? 0 : Math.min(possible, most);
                Check.due("step(1000, " + most + ") from " + start, made, m.step(1000, most));
                Check.due("X then", start + 100 * made, m.coefficient(0, 0, 0));
            }
        }
        String zero = "0 to 0";
        String in = "1000 x0y0, 0 to 0";
        String out = "1001 x0y0, 0 to 0";
        Check.due("X and Y in the square", 1, Check.holding(in, in, zero, zero).step(1, 1));
        Check.due("X outside", 0, Check.holding(out, in, zero, zero).step(1, 1));
        Check.due("Y outside", 0, Check.holding(in, out, zero, zero).step(1, 1));
        Check.due("F and G may be anywhere", 1, Check.holding(in, in, out, out).step(1, 1));
        String large = "100000000 x1y0, 0 to 0";
        String more = "100000000 x1y0, 1 x0y1, 0 to 0";
        Check.due("F[X, Y] as large as can be", 1, Check.holding(in, in, large, zero).step(1, 1));
        Check.due("F[X, Y] too large", 0, Check.holding(in, in, more, zero).step(1, 1));
        Check.due("G[X, Y] as large as can be", 1, Check.holding(in, in, zero, large).step(1, 1));
        Check.due("G[X, Y] too large", 0, Check.holding(in, in, zero, more).step(1, 1));
        Check.due("X as large as can be", 1, Check.holding(zero, in, "100000000 x0y0, 0 to 0", zero).step(1000, 1));
        Check.due("X too large", 0, Check.holding("1 x0y0, 0 to 0", in, "100000000 x0y0, 0 to 0", zero).step(1000, 1));
        Check.due("X as small as can be", 1, Check.holding(zero, in, "100000000 x0y0, 0 to 0", zero).step(-1000, 1));
        Check.due("X too small", 0, Check.holding("-1 x0y0, 0 to 0", in, "100000000 x0y0, 0 to 0", zero).step(-1000, 1));
        Check.due("Y too large", 0, Check.holding(in, "1 x0y0, 0 to 0", zero, "100000000 x0y0, 0 to 0").step(1000, 1));
    }

    private static void mostSteps() {
        Check.sentence(STEP, "- `most`: 1 to 20");
        for (int most = 1; most <= 20; most++) {
            TaylorModels m = Check.holding("0 to 0", "0 to 0", "1 x0y0, 0 to 0", "0 to 0");
            Check.due("step(1000, " + most + ")", most, m.step(1000, most));
            Check.due("X then", most, m.coefficient(0, 0, 0));
        }
        TaylorModels m = Check.holding("0 to 0", "0 to 0", "1 x0y0, 0 to 0", "0 to 0");
        for (int most : new int[] {0, -1, 21, Integer.MIN_VALUE, Integer.MAX_VALUE}) {
            Check.dueThrows("step(1000, " + most + ")", IllegalArgumentException.class, () -> m.step(1000, most));
        }
        Check.due("X still", 0, m.coefficient(0, 0, 0));
    }

    private static void rangeOfH() {
        Check.sentence(STEP, "- `h`: -1000 to 1000");
        for (int h : new int[] {-1000, -1, 0, 1, 1000}) {
            TaylorModels m = Check.holding("0 to 0", "0 to 0", "1000 x0y0, 0 to 0", "-1000 x0y0, 0 to 0");
            Check.due("step(" + h + ", 1)", 1, m.step(h, 1));
            Check.due("X then", h, m.coefficient(0, 0, 0));
            Check.due("Y then", -h, m.coefficient(1, 0, 0));
        }
        TaylorModels m = Check.holding("0 to 0", "0 to 0", "1000 x0y0, 0 to 0", "0 to 0");
        for (int h : new int[] {-1001, 1001, Integer.MIN_VALUE, Integer.MAX_VALUE}) {
            Check.dueThrows("step(" + h + ", 1)", IllegalArgumentException.class, () -> m.step(h, 1));
        }
        Check.due("X still", 0, m.coefficient(0, 0, 0));
    }

    private static void refusedStep() {
        Check.sentence(STEP, "A step that is refused changes nothing; the earlier ones stay.");
        TaylorModels m = Check.holding("0 to 0", "0 to 0", "1 x0y0, 0 to 0", "-50000000 to 50000000");
        Check.due("a Y of up to 5 * 10^7", 1, m.step(1000, 20));
        Check.due("X", "1 x0y0, 0 to 0", Check.shown(m, 0));
        Check.due("Y", "-50000000 to 50000000", Check.shown(m, 1));
        TaylorModels n = Check.holding("0 to 0", "0 to 998", "1 x0y0, 0 to 0", "1 to 1");
        Check.due("a Y that gets outside at the third step", 3, n.step(1000, 20));
        Check.due("X", "3 x0y0, 0 to 0", Check.shown(n, 0));
        Check.due("Y", "3 to 1001", Check.shown(n, 1));
        Check.due("none is possible", 0, n.step(1000, 20));
        Check.due("X still", "3 x0y0, 0 to 0", Check.shown(n, 0));
        Check.due("Y still", "3 to 1001", Check.shown(n, 1));
        TaylorModels o = Check.holding("0 to 0", "0 to 1", "1 x0y0, 0 to 0", "0 to 100000000");
        Check.due("a Y that would be too large", 0, o.step(1000, 20));
        Check.due("X stays as well", "0 to 0", Check.shown(o, 0));
        Check.due("Y stays", "0 to 1", Check.shown(o, 1));
        TaylorModels p = Check.holding("0 to 1", "0 to 0", "0 to 100000000", "1 x0y0, 0 to 0");
        Check.due("an X that would be too large", 0, p.step(1000, 20));
        Check.due("X stays", "0 to 1", Check.shown(p, 0));
        Check.due("Y stays as well", "0 to 0", Check.shown(p, 1));
        TaylorModels q = Check.loaded("models;a=0;b=0;c=1;d=0;");
        Check.due("five steps", 5, q.step(1000, 5));
        Check.due("undo() of all five, load is left", 1, q.undo());
        Check.due("X before them", "0 to 0", Check.shown(q, 0));
    }

    private static void sweepLimits() {
        Check.sentence(SWEEP, "for each coefficient c of x^i y^j with i + j greater than 0 and |c| at most a limit, the range "
                + "of c times x^i y^j is added to the remainder, and the coefficient becomes 0.");
        for (int i = 0; i <= 3; i++) {
            for (int j = 0; i + j <= 3; j++) {
                for (int c : new int[] {-MOST, -7, -1, 1, 7, MOST}) {
                    int size = Math.abs(c);
                    String model = ModelBoundaries.term(c, i, j) + "0 to 0";
                    swept(model, size - 1, 0, model);
                    boolean constant = i + j == 0;
                    swept(model, size, constant ? 0 : 1, constant ? model : ModelBoundaries.range(c, i, j));
                    if (size < MOST) {
                        swept(model, size + 1, constant ? 0 : 1, constant ? model : ModelBoundaries.range(c, i, j));
                    }
                }
            }
        }
        swept("5 x0y0, 6 x0y1, -5 x1y0, 5 x2y0, -5 x0y2, -100 to 200", 5, 3, "5 x0y0, 6 x0y1, -110 to 210");
        Check.sentence(SWEEP, "- `limit`: 0 to 100000000");
        swept("1 x1y0, 0 to 0", 0, 0, "1 x1y0, 0 to 0");
        swept("0 to 0", 0, 0, "0 to 0");
        swept("0 to 0", MOST, 0, "0 to 0");
        TaylorModels m = Check.holding("1 x1y0, 0 to 0");
        for (int limit : new int[] {-1, MOST + 1, Integer.MIN_VALUE, Integer.MAX_VALUE}) {
            Check.dueThrows("sweep(0, " + limit + ")", IllegalArgumentException.class, () -> m.sweep(0, limit));
        }
    }

    private static void swept(String model, int limit, int count, String want) {
        TaylorModels m = Check.holding(model);
        Check.due("the number of terms of " + model + " up to " + limit, count, m.sweep(0, limit));
        Check.due(model + " swept up to " + limit, want, Check.shown(m, 0));
    }

    private static void sweptCount() {
        Check.sentence(SWEEP, "Returns the number of coefficients other than 0 that became 0.");
        String all = "1 x0y0, 1 x0y1, 2 x0y2, 3 x0y3, 4 x1y0, 5 x1y1, 6 x1y2, 7 x2y0, 8 x2y1, 9 x3y0, 0 to 0";
        for (int limit = 0; limit <= 10; limit++) {
            TaylorModels m = Check.holding(all);
            Check.due("sweep(0, " + limit + ")", Math.min(limit, 9), m.sweep(0, limit));
            Check.due("the same once more", 0, m.sweep(0, limit));
            Check.due("the constant", 1, m.coefficient(0, 0, 0));
        }
    }

    private static void wraps() {
        Check.sentence("Promise 20: wrap", "with its bound r to s, the coefficient for x^0 y^0 becomes m = (r + s) / 2 "
                + "rounded down, that of the variable becomes s - m, all others become 0, and the remainder becomes 0 to "
                + "0.");
        Check.sentence("Promise 20: wrap", "Returns s - m.");
        for (int low = -5; low <= 5; low++) {
            for (int high = low; high <= 5; high++) {
                int middle = Math.floorDiv(low + high, 2);
                wrapped(low + " to " + high, middle, high - middle);
                wrapped("100 x0y0, " + low + " to " + high, 100 + middle, high - middle);
                wrapped("-100 x0y0, " + low + " to " + high, -100 + middle, high - middle);
            }
        }
        wrapped("7 x1y0, 8 x0y3, 20 x2y0, 0 to 0", 10, 25);
        wrapped("7 x1y0, 8 x0y3, 21 x2y0, 0 to 0", 10, 26);
        wrapped("7 x1y0, 8 x0y3, -21 x2y0, 0 to 0", -11, 26);
        wrapped("7 x1y1, 8 x1y2, 9 x2y1, 5 x3y0, 6 x0y1, 2 x0y2, -1 to 1", 1, 37);
        wrapped("100000000 x1y0, 0 to 0", 0, MOST);
    }

    private static void wrapped(String model, int middle, int radius) {
        for (int variable = 0; variable <= 1; variable++) {
            TaylorModels m = Check.holding(model);
            Check.due(model + " wrapped by " + variable, radius, m.wrap(0, variable));
            String terms = ModelBoundaries.term(middle, 0, 0) + ModelBoundaries.term(radius, 1 - variable, variable);
            Check.due("what it becomes", terms + "0 to 0", Check.shown(m, 0));
        }
    }

    private static void coefficients() {
        String heading = "Promise 21: setCoefficient";
        Check.sentence(heading, "Returns its previous value.");
        TaylorModels m = Check.holding("0 to 0", "-5 to 7");
        int before = 0;
        for (int value : new int[] {MOST, -MOST, 0, 1, -1, 1}) {
            Check.due("setCoefficient(0, 1, 2, " + value + ")", before, m.setCoefficient(0, 1, 2, value));
            Check.due("coefficient(0, 1, 2)", value, m.coefficient(0, 1, 2));
            before = value;
        }
        Check.sentence(heading, "- `value`: -100000000 to 100000000");
        for (int value : new int[] {MOST + 1, -MOST - 1, Integer.MAX_VALUE, Integer.MIN_VALUE}) {
            Check.dueThrows("setCoefficient(0, 1, 2, " + value + ")", IllegalArgumentException.class,
                    () -> m.setCoefficient(0, 1, 2, value));
        }
        Check.due("the model", "1 x1y2, 0 to 0", Check.shown(m, 0));
        Check.due("the other one", "-5 to 7", Check.shown(m, 1));
    }

    private static void remainders() {
        String heading = "Promise 22: setRemainder";
        Check.sentence(heading, "Returns the previous width of its remainder.");
        TaylorModels m = Check.holding("5 x3y0, 0 to 0", "-5 to 7");
        int[][] ends = {{0, 0}, {-5, 7}, {-MOST, MOST}, {MOST, MOST}, {-MOST, -MOST}, {-MOST, 0}, {3, 4}, {0, 0}};
        int before = 0;
        for (int[] e : ends) {
            Check.due("setRemainder(0, " + e[0] + ", " + e[1] + ")", before, m.setRemainder(0, e[0], e[1]));
            Check.due("the model", "5 x3y0, " + e[0] + " to " + e[1], Check.shown(m, 0));
            before = e[1] - e[0];
        }
        Check.sentence(heading, "- `low`: its lower end, -100000000 to 100000000");
        Check.sentence(heading, "- `high`: its upper end, low to 100000000");
        int[][] wrong = {{-MOST - 1, 0}, {MOST + 1, MOST + 1}, {0, MOST + 1}, {0, -1}, {1, 0}, {MOST, MOST - 1},
            {-MOST, -MOST - 1}};
        for (int[] e : wrong) {
            Check.dueThrows("setRemainder(0, " + e[0] + ", " + e[1] + ")", IllegalArgumentException.class,
                    () -> m.setRemainder(0, e[0], e[1]));
        }
        Check.due("the model still", "5 x3y0, 0 to 0", Check.shown(m, 0));
        Check.due("the other one", "-5 to 7", Check.shown(m, 1));
    }

    private static void clears() {
        Check.sentence("Promise 23: clear", "Returns whether it was defined.");
        for (int k = 0; k < 8; k++) {
            int model = k;
            TaylorModels m = Check.loaded("models;a=1;b=1;c=1;d=1;e=1;f=1;g=1;h=1;");
            Check.due("clear(" + k + ")", true, m.clear(k));
            Check.due("defined()", 255 - (1 << k), m.defined());
            Check.due("clear(" + k + ") again", false, m.clear(k));
            Check.due("defined()", 255 - (1 << k), m.defined());
            Check.dueThrows("degree(" + k + ")", NoSuchElementException.class, () -> m.degree(model));
            Check.due("undo() of the second", 2, m.undo());
            Check.due("undo() of the first", 1, m.undo());
            Check.due("defined()", 255, m.defined());
        }
    }

    /** Each of them once as a change that leaves all data as they were, and once as one that does not. */
    private static void everyChange() {
        Check.sentence(TERMS, "The changing methods are load (when it succeeds), add, subtract, multiply, compose, integrate, "
                + "step, sweep, wrap, setCoefficient, setRemainder and clear; each such call that does not throw an "
                + "exception is a change, also if all data stay as they were.");
        Change[] same = {m -> Check.load(m, "models;a=x*500;b=0;c=0;d=0;e=1000;"), m -> m.add(0, 0, 1),
            m -> m.subtract(0, 0, 1), m -> m.multiply(0, 0, 4), m -> m.compose(1, 1, 0, 0), m -> m.integrate(1, 1, 0),
            m -> m.step(1000, 20), m -> m.sweep(0, 0), m -> m.wrap(1, 0), m -> m.setCoefficient(0, 1, 0, 500),
            m -> m.setRemainder(0, 0, 0), m -> Check.answerOf(m.clear(7))};
        Change[] other = {m -> Check.load(m, "models;"), m -> m.add(0, 0, 0), m -> m.subtract(0, 0, 0),
            m -> m.multiply(0, 0, 0), m -> m.compose(0, 0, 0, 0), m -> m.integrate(0, 0, 0), m -> m.step(1000, 1),
            m -> m.sweep(0, 500), m -> m.wrap(0, 1), m -> m.setCoefficient(0, 1, 0, 501), m -> m.setRemainder(0, 0, 1),
            m -> Check.answerOf(m.clear(0))};
        for (int k = 0; k < same.length; k++) {
            TaylorModels m = Check.loaded("models;a=x*500;b=0;c=0;d=0;e=1000;");
            long before = m.checksum();
            same[k].make(m);
            Check.due("the data after change " + k, before, m.checksum());
            Check.due("undo() of change " + k, 1, m.undo());
            Check.due("the data after undo() of change " + k, before, m.checksum());
            TaylorModels n = Check.loaded("models;a=x*500;b=0;c=1;d=0;e=1000;");
            long old = n.checksum();
            other[k].make(n);
            Check.due("whether change " + k + " changes data", true, old != n.checksum());
            Check.due("undo() of change " + k, 1, n.undo());
            Check.due("the data after undo() of change " + k, old, n.checksum());
            Check.due("undo() of load", 0, n.undo());
        }
        TaylorModels m = Check.holding("1001 x0y0, 0 to 0", "0 to 0", "0 to 0", "0 to 0");
        int left = m.undo();
        Check.due("a step that is not possible", 0, m.step(1000, 20));
        Check.due("is a change too", left, m.undo());
    }

    private static void noChange() {
        Check.sentence(TERMS, "load (when it succeeds)");
        Change[] calls = {m -> Check.load(m, "models;a=;"), m -> Check.load(m, ""), TaylorModels::defined,
            TaylorModels::errorOffset, m -> m.coefficient(0, 0, 0), m -> m.remainder(0, 0), m -> m.bound(0, 0),
            m -> m.value(0, 0, 0, 0), m -> m.degree(0), m -> Check.answerOf(m.covers(0, 0)), m -> m.reason(0, 0, 0),
            TaylorModels::checksum, m -> m.append(0, 0, 0, 0, 0)};
        for (int k = 0; k < calls.length; k++) {
            TaylorModels m = Check.loaded("models;a=x;");
            m.clear(0);
            m.undo();
            calls[k].make(m);
            Check.due("undo() after call " + k + ", which is no change", 0, m.undo());
            Check.due("undo() of nothing", -1, m.undo());
        }
    }

    private static void eightChanges() {
        Check.sentence(TERMS, "At most 8 changes can be undone at a time, the latest one first; a ninth one removes the oldest "
                + "of them.");
        for (int changes = 0; changes <= 20; changes++) {
            TaylorModels m = Check.loaded("models;a=0;");
            Check.due("undo() of load", 0, m.undo());
            for (int k = 1; k <= changes; k++) {
                Check.load(m, "models;a=" + k + ";");
            }
            int left = Math.min(changes, 8);
            for (int k = 1; k <= left; k++) {
                Check.due("undo() number " + k + " of " + changes, left - k, m.undo());
                if (k < changes) {
                    Check.due("the constant then", changes - k, m.coefficient(0, 0, 0));
                } else {
                    Check.due("defined() before the first change", 0, m.defined());
                }
            }
            Check.due("undo() after " + left + " of " + changes, -1, m.undo());
            Check.due("undo() again", -1, m.undo());
        }
    }

    /** Runs of changes and undos of every length up to ten, one after the other, beside a plain list of the values. */
    private static void undoneAndNot() {
        Check.sentence("Promise 24: undo", "Undoes the latest change that has not been undone.");
        for (int made = 1; made <= 10; made++) {
            for (int undone = 0; undone <= 10; undone++) {
                Deque<Integer> before = new ArrayDeque<>();
                TaylorModels m = Check.loaded("models;a=0;");
                m.clear(1);
                for (int k = 0; k < 8; k++) {
                    m.setCoefficient(0, 0, 0, 0);
                    before.addLast(0);
                }
                for (int round = 1; round <= 10; round++) {
                    for (int k = 0; k < made; k++) {
                        before.addLast(m.coefficient(0, 0, 0));
                        m.setCoefficient(0, 0, 0, 100 * round + k);
                    }
                    while (before.size() > 8) {
                        before.removeFirst();
                    }
                    for (int k = 0; k < undone; k++) {
                        int left = before.size() - 1;
                        int value = left < 0 ? m.coefficient(0, 0, 0) : before.removeLast();
                        Check.due("undo()", left, m.undo());
                        Check.due("the value after undo()", value, m.coefficient(0, 0, 0));
                    }
                }
            }
        }
    }

    private static void undoLeaves() {
        Check.sentence("Promise 24: undo", "The input buffer and the error offset are not affected.");
        TaylorModels m = Check.loaded("models;a=x;");
        m.setCoefficient(0, 0, 0, 5);
        Check.due("a load with an error", TaylorModels.SYNTAX_ERROR, Check.load(m, "models;?"));
        Check.put(m, "models;b=1;c=2;");
        Check.due("undo() of setCoefficient", 1, m.undo());
        Check.due("errorOffset()", 7, m.errorOffset());
        Check.due("undo() of load", 0, m.undo());
        Check.due("errorOffset()", 7, m.errorOffset());
        Check.due("undo() of nothing", -1, m.undo());
        Check.due("errorOffset()", 7, m.errorOffset());
        Check.due("the input buffer", 40, m.append(-1, -1, -1, -1, -1));
        Check.due("its bytes", 2, m.load(15));
        Check.due("errorOffset() of that", -1, m.errorOffset());
        Check.due("undo() of that", 0, m.undo());
        Check.due("errorOffset() still", -1, m.errorOffset());
        Check.dueThrows("load(1) still", IllegalArgumentException.class, () -> m.load(1));
    }

    private static void nothingToUndo() {
        Check.sentence("Promise 24: undo", "Returns the number of changes that can still be undone; -1 if there was none to "
                + "undo, and nothing changes then.");
        TaylorModels m = new TaylorModels();
        Check.due("undo() of a new object", -1, m.undo());
        Check.due("defined() then", 0, m.defined());
        Check.load(m, "models;a=1;");
        Check.due("undo() of the only change", 0, m.undo());
        Check.due("undo() of none", -1, m.undo());
        Check.load(m, "models;a=1;");
        for (int k = 1; k <= 8; k++) {
            m.setCoefficient(0, 0, 0, k);
        }
        for (int left = 7; left >= 0; left--) {
            Check.due("undo()", left, m.undo());
        }
        long before = m.checksum();
        Check.due("undo() of the ninth", -1, m.undo());
        Check.due("the data then", before, m.checksum());
        Check.due("the model stays, as its load is too long ago", 1, m.defined());
        Check.due("a change", 0, m.setCoefficient(0, 0, 3, 4));
        Check.due("undo() of it", 0, m.undo());
        Check.due("undo() of none", -1, m.undo());
    }
}
