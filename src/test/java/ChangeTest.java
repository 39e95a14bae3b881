import java.util.NoSuchElementException;

/** Promises 21 to 24: setting, clearing and undoing, and what counts as a change. */
final class ChangeTest {
    private static final Class<IndexOutOfBoundsException> INDEX = IndexOutOfBoundsException.class;
    private static final Class<NoSuchElementException> MISSING = NoSuchElementException.class;
    private static final Class<IllegalArgumentException> ARGUMENT = IllegalArgumentException.class;
    private static final int MOST = 100000000;

    public static void main(String[] args) {
        settingCoefficients();
        settingRemainders();
        clearing();
        undoing();
        everyChangeCounts();
        queriesAreNoChanges();
        errorsAreNoChanges();
        objectsAreApart();
        Check.finish("ChangeTest");
    }

    private static void settingCoefficients() {
        TaylorModels m = Check.loaded("models;a=x*7#3;b=y;");
        Check.due("setCoefficient(0, 1, 0, 8)", 7, m.setCoefficient(0, 1, 0, 8));
        Check.due("setCoefficient(0, 0, 3, -9)", 0, m.setCoefficient(0, 0, 3, -9));
        Check.due("setCoefficient(0, 0, 3, 10^8)", -9, m.setCoefficient(0, 0, 3, MOST));
        Check.due("setCoefficient(0, 0, 3, -10^8)", MOST, m.setCoefficient(0, 0, 3, -MOST));
        Check.due("a", -MOST + " x0y3, 8 x1y0, -3 to 3", Check.shown(m, 0));
        Check.due("b", "1000 x0y1, 0 to 0", Check.shown(m, 1));
        long sum = m.checksum();
        for (int n : new int[] {MOST + 1, -MOST - 1, Integer.MAX_VALUE, Integer.MIN_VALUE}) {
            Check.dueThrows("setCoefficient to " + n, ARGUMENT, () -> m.setCoefficient(0, 0, 0, n));
        }
        int[][] wrong = {{-1, 0}, {0, -1}, {4, 0}, {0, 4}, {2, 2}, {Integer.MAX_VALUE, Integer.MAX_VALUE}, {-1, 1}};
        for (int[] w : wrong) {
            Check.dueThrows("setCoefficient(0, " + w[0] + ", " + w[1] + ", 0)", ARGUMENT,
                    () -> m.setCoefficient(0, w[0], w[1], 0));
        }
        Check.dueThrows("setCoefficient(2, 4, 0, 0)", MISSING, () -> m.setCoefficient(2, 4, 0, 0));
        Check.dueThrows("setCoefficient(8, 4, 0, 0)", INDEX, () -> m.setCoefficient(8, 4, 0, 0));
        Check.dueThrows("setCoefficient(-1, 4, 0, 0)", INDEX, () -> m.setCoefficient(-1, 4, 0, 0));
        Check.due("checksum() after exceptions", sum, m.checksum());
        Check.due("they are no changes", 4, m.undo());
    }

    private static void settingRemainders() {
        TaylorModels m = Check.loaded("models;a=x*7#3;b=y;");
        Check.due("setRemainder(0, -1, 5)", 6, m.setRemainder(0, -1, 5));
        Check.due("setRemainder(0, 4, 4)", 6, m.setRemainder(0, 4, 4));
        Check.due("setRemainder(0, -10^8, 10^8)", 0, m.setRemainder(0, -MOST, MOST));
        Check.due("setRemainder(0, 10^8, 10^8)", 2 * MOST, m.setRemainder(0, MOST, MOST));
        Check.due("a", "7 x1y0, 100000000 to 100000000", Check.shown(m, 0));
        int[][] wrong = {{1, 0}, {-MOST - 1, 0}, {0, MOST + 1}, {-MOST - 1, MOST + 1}, {MOST + 1, MOST + 2},
            {Integer.MIN_VALUE, Integer.MAX_VALUE}, {Integer.MAX_VALUE, Integer.MIN_VALUE}, {0, -1}};
        for (int[] w : wrong) {
            String call = ", " + w[0] + ", " + w[1] + ")";
            Check.dueThrows("setRemainder(0" + call, ARGUMENT, () -> m.setRemainder(0, w[0], w[1]));
            Check.dueThrows("setRemainder(2" + call, MISSING, () -> m.setRemainder(2, w[0], w[1]));
            Check.dueThrows("setRemainder(8" + call, INDEX, () -> m.setRemainder(8, w[0], w[1]));
            Check.dueThrows("setRemainder(-1" + call, INDEX, () -> m.setRemainder(-1, w[0], w[1]));
        }
        Check.due("they are no changes", 4, m.undo());
        Check.due("a before", "7 x1y0, -100000000 to 100000000", Check.shown(m, 0));
    }

    private static void clearing() {
        TaylorModels m = Check.loaded("models;a=x;h=y;");
        Check.due("clear(7)", true, m.clear(7));
        Check.due("clear(7) again", false, m.clear(7));
        Check.due("clear(3)", false, m.clear(3));
        Check.due("defined()", 1, m.defined());
        Check.dueThrows("coefficient of a cleared one", MISSING, () -> m.coefficient(7, 0, 1));
        for (int none : new int[] {-1, 8, Integer.MAX_VALUE, Integer.MIN_VALUE}) {
            Check.dueThrows("clear(" + none + ")", INDEX, () -> Check.answerOf(m.clear(none)));
        }
        Check.due("undo() of clear(3)", 3, m.undo());
        Check.due("undo() of the second clear(7)", 2, m.undo());
        Check.due("defined() still", 1, m.defined());
        Check.due("undo() of the first clear(7)", 1, m.undo());
        Check.due("h is back", "1000 x0y1, 0 to 0", Check.shown(m, 7));
    }

    private static void undoing() {
        TaylorModels m = Check.loaded("models;a=0;");
        Check.due("undo() of load", 0, m.undo());
        Check.due("undo() of nothing", -1, m.undo());
        Check.due("defined()", 0, m.defined());
        Check.load(m, "models;a=0;");
        for (int n = 1; n <= 12; n++) {
            m.setCoefficient(0, 0, 0, n);
        }
        for (int n = 11; n >= 4; n--) {
            Check.due("undo() to " + n, n - 4, m.undo());
            Check.due("the coefficient then", n, m.coefficient(0, 0, 0));
        }
        Check.due("undo() of more than eight", -1, m.undo());
        Check.due("the coefficient stays", 4, m.coefficient(0, 0, 0));
        for (int n = 1; n <= 3; n++) {
            m.setCoefficient(0, 0, 0, 100 * n);
        }
        Check.due("undo() of the third", 2, m.undo());
        m.setCoefficient(0, 0, 0, 999);
        Check.due("undo() of what came instead", 2, m.undo());
        Check.due("the second", 200, m.coefficient(0, 0, 0));
        Check.due("undo() of the second", 1, m.undo());
        Check.due("undo() of the first", 0, m.undo());
        Check.due("what was before", 4, m.coefficient(0, 0, 0));
        Check.put(m, "models;b=1;");
        m.setCoefficient(0, 0, 0, 5);
        m.undo();
        Check.due("undo leaves the input buffer", 1, m.load(11));
        Check.due("b alone", 2, m.defined());
        Check.due("undo() of load", 0, m.undo());
        Check.due("a alone", 1, m.defined());
        Check.due("it is as it was", 4, m.coefficient(0, 0, 0));
    }

    private static void everyChangeCounts() {
        TaylorModels m = Check.loaded("models;a=x*100;b=y*100;c=0;d=0;");
        m.undo();
        Check.load(m, "models;a=x*100;b=y*100;c=0;d=0;");
        Check.load(m, "models;a=x*100;b=y*100;c=0;d=0;");
        m.undo();
        long sum = m.checksum();
        m.add(0, 0, 2);
        m.subtract(0, 0, 2);
        m.compose(2, 2, 0, 1);
        m.integrate(2, 2, 0);
        m.step(1000, 3);
        m.sweep(0, 0);
        m.multiply(2, 0, 2);
        Check.due("the data are the same", sum, m.checksum());
        for (int left = 7; left >= 1; left--) {
            Check.due("undo() of a change that changed nothing", left, m.undo());
            Check.due("the data are the same", sum, m.checksum());
        }
        m.wrap(0, 0);
        m.setCoefficient(0, 0, 0, 0);
        m.setRemainder(0, 0, 0);
        m.clear(7);
        Check.due("wrap, setCoefficient, setRemainder, clear and load", 4, m.undo());
        Check.due("the data are the same", sum, m.checksum());
    }

    private static void queriesAreNoChanges() {
        TaylorModels m = Check.loaded("models;a=x;");
        m.defined();
        m.errorOffset();
        m.coefficient(0, 0, 0);
        m.remainder(0, 0);
        m.bound(0, 0);
        m.value(0, 1, 1, 1);
        m.degree(0);
        m.covers(0, 0);
        m.reason(0, 0, 0);
        m.checksum();
        m.append(0, 0, 0, 0, 0);
        Check.due("undo() of load, the only change", 0, m.undo());
    }

    private static void errorsAreNoChanges() {
        TaylorModels m = Check.loaded("models;a=x+1;");
        Check.due("a load with an error", TaylorModels.SYNTAX_ERROR, Check.load(m, "models;a=;"));
        Check.dueThrows("load(1)", ARGUMENT, () -> m.load(1));
        Check.dueThrows("add without b", MISSING, () -> m.add(0, 0, 1));
        Check.dueThrows("step without b", MISSING, () -> m.step(0, 1));
        m.setRemainder(0, MOST, MOST);
        Check.dueThrows("add, too large", IllegalStateException.class, () -> m.add(0, 0, 0));
        Check.dueThrows("sweep, too large", IllegalStateException.class, () -> m.sweep(0, MOST));
        Check.dueThrows("wrap, too large", IllegalStateException.class, () -> m.wrap(0, 0));
        Check.due("undo() of setRemainder", 1, m.undo());
        Check.due("undo() of load", 0, m.undo());
        Check.due("undo() of nothing", -1, m.undo());
    }

    private static void objectsAreApart() {
        TaylorModels m = Check.loaded("models;a=x;");
        TaylorModels n = Check.loaded("models;a=y;b=y;");
        m.setCoefficient(0, 0, 0, 5);
        Check.due("the other object", "1000 x0y1, 0 to 0", Check.shown(n, 0));
        Check.due("its changes", 0, n.undo());
        Check.due("this object", "5 x0y0, 1000 x1y0, 0 to 0", Check.shown(m, 0));
    }
}
