/** Promises 5 to 12 and 25: what can be asked of models, and the order of the exceptions. */
final class QueryTest {
    private static final Class<IndexOutOfBoundsException> INDEX = IndexOutOfBoundsException.class;
    private static final Class<java.util.NoSuchElementException> MISSING = java.util.NoSuchElementException.class;
    private static final Class<IllegalArgumentException> ARGUMENT = IllegalArgumentException.class;
    private static final int[] NO_MODEL = {-1, 8, Integer.MIN_VALUE, Integer.MAX_VALUE};
    private static final int MOST = 100000000;

    public static void main(String[] args) {
        coefficients();
        remainders();
        bounds();
        values();
        finestValues();
        largestValues();
        degrees();
        covering();
        reasons();
        reasonTooLarge();
        checksums();
        Check.finish("QueryTest");
    }

    /** Model 0 with the coefficients 1 to 10 in the order of the checksum, and with the remainder -50 to 70. */
    private static TaylorModels counted() {
        TaylorModels m = Check.loaded("models;a=0;");
        int n = 1;
        for (int i = 0; i <= 3; i++) {
            for (int j = 0; i + j <= 3; j++) {
                m.setCoefficient(0, i, j, n++);
            }
        }
        m.setRemainder(0, -50, 70);
        return m;
    }

    private static void coefficients() {
        TaylorModels m = counted();
        Check.due("coefficient(0, 0, 0)", 1, m.coefficient(0, 0, 0));
        Check.due("coefficient(0, 0, 3)", 4, m.coefficient(0, 0, 3));
        Check.due("coefficient(0, 1, 0)", 5, m.coefficient(0, 1, 0));
        Check.due("coefficient(0, 1, 2)", 7, m.coefficient(0, 1, 2));
        Check.due("coefficient(0, 2, 0)", 8, m.coefficient(0, 2, 0));
        Check.due("coefficient(0, 2, 1)", 9, m.coefficient(0, 2, 1));
        Check.due("coefficient(0, 3, 0)", 10, m.coefficient(0, 3, 0));
        int[][] wrong = {{-1, 0}, {0, -1}, {4, 0}, {0, 4}, {3, 1}, {1, 3}, {2, 2}, {-1, 4}, {5, -2}, {4, -1},
            {Integer.MAX_VALUE, Integer.MAX_VALUE}, {Integer.MAX_VALUE, 1}, {1, Integer.MAX_VALUE},
            {Integer.MIN_VALUE, Integer.MIN_VALUE}};
        for (int[] ij : wrong) {
            Check.dueThrows("coefficient(0, " + ij[0] + ", " + ij[1] + ")", ARGUMENT,
                    () -> m.coefficient(0, ij[0], ij[1]));
        }
        Check.dueThrows("coefficient(1, 0, 0)", MISSING, () -> m.coefficient(1, 0, 0));
        Check.dueThrows("coefficient(1, 4, 4)", MISSING, () -> m.coefficient(1, 4, 4));
        for (int none : NO_MODEL) {
            Check.dueThrows("coefficient of " + none, INDEX, () -> m.coefficient(none, 4, 4));
        }
    }

    private static void remainders() {
        TaylorModels m = counted();
        Check.due("remainder(0, 0)", -50, m.remainder(0, 0));
        Check.due("remainder(0, 1)", 70, m.remainder(0, 1));
        for (int which : new int[] {-1, 2, 1000}) {
            Check.dueThrows("remainder(0, " + which + ")", ARGUMENT, () -> m.remainder(0, which));
            Check.dueThrows("remainder(7, " + which + ")", MISSING, () -> m.remainder(7, which));
        }
        for (int none : NO_MODEL) {
            Check.dueThrows("remainder of " + none, INDEX, () -> m.remainder(none, 2));
        }
    }

    private static void bounds() {
        TaylorModels m = counted();
        // 1 alone; even powers 0 to 3 (y^2) and 0 to 8 (x^2); all others, 2 + 4 + 5 + 6 + 7 + 9 + 10 = 43, both ways.
        Check.due("bound(0, 0)", 1 - 43 - 50, m.bound(0, 0));
        Check.due("bound(0, 1)", 1 + 3 + 8 + 43 + 70, m.bound(0, 1));
        m.setCoefficient(0, 0, 2, -3);
        m.setCoefficient(0, 1, 1, -6);
        m.setCoefficient(0, 0, 0, -1);
        Check.due("bound(0, 0) with minus signs", -1 - 3 - 43 - 50, m.bound(0, 0));
        Check.due("bound(0, 1) with minus signs", -1 + 8 + 43 + 70, m.bound(0, 1));
        for (int which : new int[] {-1, 2}) {
            Check.dueThrows("bound(0, " + which + ")", ARGUMENT, () -> m.bound(0, which));
            Check.dueThrows("bound(1, " + which + ")", MISSING, () -> m.bound(1, which));
        }
        for (int none : NO_MODEL) {
            Check.dueThrows("bound of " + none, INDEX, () -> m.bound(none, 2));
        }
    }

    private static void values() {
        TaylorModels m = counted();
        Check.due("value at 0, 0, lower", 1 - 50, m.value(0, 0, 0, 0));
        Check.due("value at 0, 0, upper", 1 + 70, m.value(0, 0, 0, 1));
        Check.due("value at 1, 1, lower", 55 - 50, m.value(0, 1000, 1000, 0));
        Check.due("value at 1, 1, upper", 55 + 70, m.value(0, 1000, 1000, 1));
        // 1 - 2 + 3 - 4 + 5 - 6 + 7 + 8 - 9 + 10 = 13 at x = 1, y = -1.
        Check.due("value at 1, -1, lower", 13 - 50, m.value(0, 1000, -1000, 0));
        Check.due("value at -1, 1, lower", 1 + 2 + 3 + 4 - 5 - 6 - 7 + 8 + 9 - 10 - 50, m.value(0, -1000, 1000, 0));
        // At x = 1/2, y = 0 it is 1 + 5/2 + 8/4 + 10/8 = 6.75.
        Check.due("value at 1/2, 0, lower", 6 - 50, m.value(0, 500, 0, 0));
        Check.due("value at 1/2, 0, upper", 7 + 70, m.value(0, 500, 0, 1));
        // At x = -1/2 it is 1 - 5/2 + 8/4 - 10/8 = -0.75.
        Check.due("value at -1/2, 0, lower", -1 - 50, m.value(0, -500, 0, 0));
        Check.due("value at -1/2, 0, upper", 0 + 70, m.value(0, -500, 0, 1));
        int[][] wrong = {{1001, 0, 0}, {-1001, 0, 0}, {0, 1001, 1}, {0, -1001, 1}, {0, 0, 2}, {0, 0, -1},
            {Integer.MIN_VALUE, 0, 0}, {0, Integer.MAX_VALUE, 0}};
        for (int[] w : wrong) {
            String call = ", " + w[0] + ", " + w[1] + ", " + w[2] + ")";
            Check.dueThrows("value(0" + call, ARGUMENT, () -> m.value(0, w[0], w[1], w[2]));
            Check.dueThrows("value(1" + call, MISSING, () -> m.value(1, w[0], w[1], w[2]));
            Check.dueThrows("value(8" + call, INDEX, () -> m.value(8, w[0], w[1], w[2]));
            Check.dueThrows("value(-1" + call, INDEX, () -> m.value(-1, w[0], w[1], w[2]));
        }
    }

    /** Exact values are not rounded; what is off by a billionth of a thousandth is. */
    private static void finestValues() {
        TaylorModels m = Check.loaded("models;a=x;");
        Check.due("value at 0.999 of x, lower", 999, m.value(0, 999, 5, 0));
        Check.due("value at 0.999 of x, upper", 999, m.value(0, 999, 5, 1));
        m.setCoefficient(0, 0, 3, -1);
        Check.due("value of x - 0.001 y^3 at 0.999, 0.005, lower", 998, m.value(0, 999, 5, 0));
        Check.due("value of x - 0.001 y^3 at 0.999, 0.005, upper", 999, m.value(0, 999, 5, 1));
        Check.due("value of x - 0.001 y^3 at 0.999, -0.005, lower", 999, m.value(0, 999, -5, 0));
        Check.due("value of x - 0.001 y^3 at 0.999, -0.005, upper", 1000, m.value(0, 999, -5, 1));
        m.setCoefficient(0, 0, 3, 1);
        Check.due("value of x + 0.001 y^3 at 0.999, 0.001, lower", 999, m.value(0, 999, 1, 0));
        Check.due("value of x + 0.001 y^3 at 0.999, -0.001, lower", 998, m.value(0, 999, -1, 0));
        Check.due("value of x + 0.001 y^3 at 0.999, 0.001, upper", 1000, m.value(0, 999, 1, 1));
    }

    private static void largestValues() {
        TaylorModels m = Check.loaded("models;a=0;b=0;");
        for (int i = 0; i <= 3; i++) {
            for (int j = 0; i + j <= 3; j++) {
                m.setCoefficient(0, i, j, MOST);
                m.setCoefficient(1, i, j, -MOST);
            }
        }
        m.setRemainder(0, MOST, MOST);
        m.setRemainder(1, -MOST, -MOST);
        Check.due("largest value", 11 * MOST, m.value(0, 1000, 1000, 0));
        Check.due("least value", -11 * MOST, m.value(1, 1000, 1000, 1));
        Check.due("largest bound", 11 * MOST, m.bound(0, 1));
        Check.due("its lower end", (1 - 7 + 1) * MOST, m.bound(0, 0));
        Check.due("least bound", -11 * MOST, m.bound(1, 0));
        Check.due("its upper end", (-1 + 7 - 1) * MOST, m.bound(1, 1));
        // At y = 0 only 1 + x + x^2 + x^3 count.
        Check.due("value at 0.1, 0", 111100000 + MOST, m.value(0, 100, 0, 0));
        Check.due("value at 0.001, 0.001, lower", 100200300 + MOST, m.value(0, 1, 1, 0));
        Check.due("value at 0.001, 0.001, upper", 100200301 + MOST, m.value(0, 1, 1, 1));
        Check.due("covers nothing of the other sign", false, m.covers(0, 1));
        m.setRemainder(1, -MOST, MOST);
        m.setRemainder(0, 0, 0);
        Check.due("differences of 2 * 10^8 each are not covered", false, m.covers(1, 0));
    }

    private static void degrees() {
        TaylorModels m = Check.loaded("models;a=0#5;b=7;c=y-5;d=x*y;e=x*x*y+x;f=y*y*y;g=0-x*x*x;");
        int[] want = {-1, 0, 1, 2, 3, 3, 3};
        for (int k = 0; k < want.length; k++) {
            Check.due("degree(" + k + ")", want[k], m.degree(k));
        }
        Check.dueThrows("degree(7)", MISSING, () -> m.degree(7));
        for (int none : NO_MODEL) {
            Check.dueThrows("degree of " + none, INDEX, () -> m.degree(none));
        }
    }

    private static void covering() {
        TaylorModels m = Check.loaded("models;a=x#10;b=x+10;c=x+11;d=x+y*y*10;e=x-y*y*10;f=x+y*10;g=x-x*11;");
        Check.due("covers(0, 0)", true, m.covers(0, 0));
        Check.due("covers(1, 1)", true, m.covers(1, 1));
        Check.due("covers(0, 1)", true, m.covers(0, 1));
        Check.due("covers(1, 0)", false, m.covers(1, 0));
        Check.due("covers(0, 2)", false, m.covers(0, 2));
        Check.due("covers(0, 3)", true, m.covers(0, 3));
        Check.due("covers(0, 4)", true, m.covers(0, 4));
        Check.due("covers(0, 5)", true, m.covers(0, 5));
        Check.due("covers(0, 6)", false, m.covers(0, 6));
        m.setRemainder(0, 0, 10);
        Check.due("covers(0, 3) from 0", true, m.covers(0, 3));
        Check.due("covers(0, 4) from 0", false, m.covers(0, 4));
        Check.due("covers(0, 5) from 0", false, m.covers(0, 5));
        m.setRemainder(3, -1, 0);
        Check.due("covers(0, 3), with a remainder", false, m.covers(0, 3));
        m.setRemainder(3, 0, 1);
        Check.due("covers(0, 3), with another", false, m.covers(0, 3));
        Check.dueThrows("covers(0, 7)", MISSING, () -> Check.answerOf(m.covers(0, 7)));
        Check.dueThrows("covers(7, 0)", MISSING, () -> Check.answerOf(m.covers(7, 0)));
        for (int none : NO_MODEL) {
            Check.dueThrows("covers(7, " + none + ")", INDEX, () -> Check.answerOf(m.covers(7, none)));
            Check.dueThrows("covers(" + none + ", 7)", INDEX, () -> Check.answerOf(m.covers(none, 7)));
        }
    }

    private static void reasons() {
        TaylorModels m = Check.loaded("models;a=x;b=x+1;c=0-1000;d=0-1001;e=x*999#1;f=x*y#1;");
        long sum = m.checksum();
        Check.due("reason(0, 0, 0)", 0, m.reason(0, 0, 0));
        Check.due("reason(0, 1, 0)", 1, m.reason(0, 1, 0));
        Check.due("reason(0, 0, 1)", 2, m.reason(0, 0, 1));
        Check.due("reason(0, 1, 1)", 1, m.reason(0, 1, 1));
        Check.due("reason(0, 2, 2)", 0, m.reason(0, 2, 2));
        Check.due("reason(0, 3, 2)", 1, m.reason(0, 3, 2));
        Check.due("reason(0, 2, 3)", 2, m.reason(0, 2, 3));
        Check.due("reason(0, 4, 4)", 0, m.reason(0, 4, 4));
        Check.due("reason(0, 5, 4)", 1, m.reason(0, 5, 4));
        Check.due("reason(1, 4, 5)", 2, m.reason(1, 4, 5));
        squares();
        Check.due("reason changes nothing", sum, m.checksum());
        Check.due("reason is no change", 0, m.undo());
        Check.due("load was the only one", -1, m.undo());
    }

    /** The bound is within the square or not, with a remainder more on one side. */
    private static void squares() {
        square("x*500", -500, 0, 0);
        square("x*500", -501, 0, 1);
        square("x*500", 0, 500, 0);
        square("x*500", 0, 501, 1);
        square("x*500", 500, 500, 0);
        square("x*500", 501, 501, 1);
        square("x*500", -501, -501, 1);
        square("1500", -2500, -499, 1);
        square("1500", -2500, -500, 0);
        square("1500", -2501, -500, 1);
        square("0-1500", 500, 2500, 0);
        square("0-1500", 499, 2500, 1);
        square("0-1500", 500, 2501, 1);
        square("x*x*2000-1000", 0, 0, 0);
        square("x*x*2001-1000", 0, 0, 1);
        square("x*x*2000-1001", 0, 0, 1);
        square("x*x*2000-1001", 1, 1, 0);
        square("x*x*1999-1001", 1, 2, 0);
        square("1000-y*y*2000", 0, 0, 0);
        square("1000-y*y*2001", 0, 0, 1);
    }

    private static void square(String sum, int low, int high, int want) {
        TaylorModels m = Check.loaded("models;a=" + sum + ";b=0;");
        m.setRemainder(0, low, high);
        String model = sum + " with " + low + " to " + high;
        Check.due("reason for " + model + " as first", want, m.reason(1, 0, 1));
        Check.due("reason for " + model + " as second", 2 * want, m.reason(1, 1, 0));
        Check.due("reason for " + model + " as both", want, m.reason(1, 0, 0));
    }

    private static void reasonTooLarge() {
        TaylorModels m = Check.loaded("models;a=0;b=1000;c=x;d=0#1000;e=0-1000;");
        m.setCoefficient(0, 0, 0, MOST);
        Check.due("a constant of 10^8", 0, m.reason(0, 1, 1));
        m.setCoefficient(0, 0, 1, 1);
        Check.due("10^8 + 1 at 1", 3, m.reason(0, 1, 1));
        Check.due("10^8 + x", 0, m.reason(0, 1, 2));
        Check.due("10^8 - 1 at -1", 0, m.reason(0, 1, 4));
        m.setCoefficient(0, 0, 2, -1);
        Check.due("a sum that is too large on the way only", 3, m.reason(0, 1, 1));
        m.setCoefficient(0, 0, 1, -1);
        m.setCoefficient(0, 0, 2, 1);
        Check.due("the same terms the other way", 0, m.reason(0, 1, 1));
        m.setRemainder(0, 0, 1);
        m.setCoefficient(0, 0, 0, 0);
        m.setCoefficient(0, 0, 1, MOST);
        m.setCoefficient(0, 0, 2, 0);
        Check.due("a remainder of 10^8 + 1", 3, m.reason(0, 1, 3));
        m.setRemainder(0, -1, 0);
        Check.due("a remainder of -10^8 - 1", 3, m.reason(0, 1, 3));
        m.setRemainder(0, 0, 0);
        Check.due("a remainder of 10^8", 0, m.reason(0, 1, 3));
        TaylorModels n = Check.loaded("models;a=0;b=x*x*2000-1000;c=0;d=1000;e=x;");
        n.setCoefficient(0, 1, 1, MOST / 2);
        Check.due("a product as large as there is", 0, n.reason(0, 1, 2));
        n.setCoefficient(0, 1, 1, MOST / 2 + 1);
        Check.due("a product that is too large on the way only", 3, n.reason(0, 1, 2));
        Check.due("the other way round it is 0 at once", 0, n.reason(0, 2, 1));
        n.setCoefficient(0, 1, 1, 0);
        n.setCoefficient(0, 0, 0, 1);
        n.setCoefficient(0, 1, 0, MOST);
        Check.due("1 + 10^8 at 1", 3, n.reason(0, 3, 4));
        Check.due("1 + 10^8 x", 0, n.reason(0, 4, 3));
        Check.dueThrows("reason(7, 0, 0)", MISSING, () -> m.reason(7, 0, 0));
        Check.dueThrows("reason(0, 7, 0)", MISSING, () -> m.reason(0, 7, 0));
        Check.dueThrows("reason(0, 0, 7)", MISSING, () -> m.reason(0, 0, 7));
        for (int none : NO_MODEL) {
            Check.dueThrows("reason(" + none + ", 7, 7)", INDEX, () -> m.reason(none, 7, 7));
            Check.dueThrows("reason(7, " + none + ", 7)", INDEX, () -> m.reason(7, none, 7));
            Check.dueThrows("reason(7, 7, " + none + ")", INDEX, () -> m.reason(7, 7, none));
        }
    }

    private static void checksums() {
        TaylorModels m = counted();
        long want = 1;
        for (int n = 1; n <= 10; n++) {
            want = 31 * want + n;
        }
        want = (want * 31 - 50) * 31 + 70;
        Check.due("checksum()", want, m.checksum());
        m.setRemainder(0, 0, 0);
        m.add(7, 0, 0);
        want = 129;
        for (int n = 1; n <= 10; n++) {
            want = 31 * want + n;
        }
        want *= 31 * 31;
        for (int n = 1; n <= 10; n++) {
            want = 31 * want + 2 * n;
        }
        want *= 31 * 31;
        Check.due("checksum() of two models", want, m.checksum());
        m.clear(0);
        m.clear(7);
        Check.due("checksum() of none", 0, m.checksum());
    }
}
