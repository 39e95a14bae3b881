import java.util.NoSuchElementException;

/** Promises 13 to 20: sums, products, compositions, antiderivatives, steps, sweeping and wrapping. */
final class OperationTest {
    private static final Class<IndexOutOfBoundsException> INDEX = IndexOutOfBoundsException.class;
    private static final Class<NoSuchElementException> MISSING = NoSuchElementException.class;
    private static final Class<IllegalArgumentException> ARGUMENT = IllegalArgumentException.class;
    private static final Class<IllegalStateException> STATE = IllegalStateException.class;
    private static final int MOST = 100000000;

    private interface Ternary {
        int answer(TaylorModels m, int target, int first, int second);
    }

    public static void main(String[] args) {
        sums();
        differences();
        products();
        productRounding();
        largestProducts();
        compositions();
        refusedCompositions();
        antiderivatives();
        largestAntiderivatives();
        steps();
        refusedSteps();
        sweeping();
        wrapping();
        ternaryExceptions();
        otherExceptions();
        Check.finish("OperationTest");
    }

    private static void shows(String call, TaylorModels m, int model, String want) {
        Check.due(call, want, Check.shown(m, model));
    }

    private static void sums() {
        TaylorModels m = Check.loaded("models;a=x+2*y*1000#3;b=x*x-y#4;");
        m.setRemainder(1, -1, 9);
        Check.due("add(2, 0, 1)", 6 + 10, m.add(2, 0, 1));
        shows("the sum", m, 2, "-998 x0y1, 1000 x1y0, 1000 x2y0, -4 to 12");
        Check.due("add(0, 0, 0)", 12, m.add(0, 0, 0));
        shows("the sum in place", m, 0, "4 x0y1, 2000 x1y0, -6 to 6");
        m.setCoefficient(0, 3, 0, MOST);
        m.setCoefficient(1, 3, 0, 1);
        long sum = m.checksum();
        Check.dueThrows("add of 10^8 and 1", STATE, () -> m.add(0, 0, 1));
        Check.due("it changes nothing", sum, m.checksum());
        m.setCoefficient(1, 3, 0, 0);
        Check.due("add of 10^8 and 0", 22, m.add(7, 0, 1));
        m.setRemainder(0, -MOST, MOST);
        m.setRemainder(1, 0, 1);
        Check.dueThrows("add of remainders, too high", STATE, () -> m.add(7, 0, 1));
        m.setRemainder(1, -1, 0);
        Check.dueThrows("add of remainders, too low", STATE, () -> m.add(7, 0, 1));
        m.setRemainder(1, 0, 0);
        Check.due("the widest remainder", 2 * MOST, m.add(7, 0, 1));
        TaylorModels n = Check.loaded("models;a=0;b=0;");
        n.setRemainder(0, MOST - 1, MOST - 1);
        n.setRemainder(1, 1, 1);
        Check.due("the highest remainder", 0, n.add(2, 0, 1));
        shows("it is", n, 2, "100000000 to 100000000");
        n.setRemainder(1, 1, 2);
        Check.dueThrows("a higher one", STATE, () -> n.add(2, 0, 1));
        n.setRemainder(0, 1 - MOST, 1 - MOST);
        n.setRemainder(1, -1, -1);
        Check.due("the lowest remainder", 0, n.add(2, 0, 1));
        shows("it is", n, 2, "-100000000 to -100000000");
        n.setRemainder(1, -2, -1);
        Check.dueThrows("a lower one", STATE, () -> n.add(2, 0, 1));
    }

    private static void differences() {
        TaylorModels m = Check.loaded("models;a=x+7;b=x*x-y;");
        m.setRemainder(0, -3, 5);
        m.setRemainder(1, -1, 9);
        Check.due("subtract(2, 0, 1)", 8 + 10, m.subtract(2, 0, 1));
        shows("the difference", m, 2, "7 x0y0, 1000 x0y1, 1000 x1y0, -1000 x2y0, -12 to 6");
        Check.due("subtract(0, 0, 0)", 16, m.subtract(0, 0, 0));
        shows("the difference in place", m, 0, "-8 to 8");
        Check.due("subtract(1, 0, 1)", 26, m.subtract(1, 0, 1));
        shows("the difference in the place of the second", m, 1, "1000 x0y1, -1000 x2y0, -17 to 9");
        m.setCoefficient(0, 0, 0, -MOST);
        m.setCoefficient(1, 0, 0, 1);
        long sum = m.checksum();
        Check.dueThrows("subtract of -10^8 and 1", STATE, () -> m.subtract(7, 0, 1));
        Check.due("it changes nothing", sum, m.checksum());
        Check.due("subtract of 1 and -10^8 is as large", "throws.IllegalStateException",
                Check.outcome(() -> m.subtract(7, 1, 0)));
    }

    private static void products() {
        TaylorModels m = Check.loaded("models;a=x+y;b=x-y;c=x*x;d=x*y*500;e=2000;f=0;");
        m.setRemainder(4, -3, 5);
        Check.due("multiply(6, 0, 1)", 0, m.multiply(6, 0, 1));
        shows("(x + y) (x - y)", m, 6, "-1000 x0y2, 1000 x2y0, 0 to 0");
        Check.due("x^2 * x^2 goes to the remainder", 1000, m.multiply(6, 2, 2));
        shows("x^4", m, 6, "0 to 1000");
        Check.due("x^2 * x y / 2", 1000, m.multiply(6, 2, 3));
        shows("x^3 y / 2", m, 6, "-500 to 500");
        lost("x*x*x", "x", "0 to 1000");
        lost("y*y*y", "y", "0 to 1000");
        lost("x*y", "x*y", "0 to 1000");
        lost("x*x*y", "y", "0 to 1000");
        lost("x*x*x", "y", "-1000 to 1000");
        lost("y*y*y", "x", "-1000 to 1000");
        lost("x*x*x", "x*x", "-1000 to 1000");
        lost("x*x*x", "x*y", "-1000 to 1000");
        lost("x*x*x", "y*y", "-1000 to 1000");
        lost("x*x", "y*y*y", "-1000 to 1000");
        lost("x*y*y", "y*y", "-1000 to 1000");
        lost("y*y*y", "y*y", "-1000 to 1000");
        lost("x*x*x", "x*x*x", "0 to 1000");
        lost("x*x*y", "x*x*x", "-1000 to 1000");
        lost("x*x*x", "x*y*y", "0 to 1000");
        lost("x*x*x", "y*y*y", "-1000 to 1000");
        lost("x*y*y", "x*y*y", "0 to 1000");
        lost("x*y*y", "y*y*y", "-1000 to 1000");
        lost("y*y*y", "0-y*y*y", "-1000 to 0");
        lost("x*x+x*y", "x*x-x*y", "-1000 to 1000");
        // x^4 + 2 x^3 y + x^2 y^2.
        lost("x*x+x*y", "x*x+x*y", "-2000 to 4000");
        // Remainders: 2 * -3 to 2 * 5 twice, and the product -3 to 5 times itself, -0.015 to 0.025.
        Check.due("multiply(6, 4, 4)", 21 + 13, m.multiply(6, 4, 4));
        shows("the square of a constant with a remainder", m, 6, "4000 x0y0, -13 to 21");
        // The spread of x + y is -2 to 2, times -3 to 5 is -10 to 10 thousandths.
        Check.due("multiply(6, 0, 4)", 20, m.multiply(6, 0, 4));
        shows("(x + y) 2", m, 6, "2000 x0y1, 2000 x1y0, -10 to 10");
        Check.due("the other way round", 20, m.multiply(6, 4, 0));
        shows("2 (x + y)", m, 6, "2000 x0y1, 2000 x1y0, -10 to 10");
        Check.due("times 0", 0, m.multiply(6, 4, 5));
        shows("0", m, 6, "0 to 0");
        Check.due("in place", 0, m.multiply(0, 0, 0));
        shows("(x + y)^2", m, 0, "1000 x0y2, 2000 x1y1, 1000 x2y0, 0 to 0");
        Check.due("in the place of the second", 0, m.multiply(1, 2, 1));
        shows("x^2 (x - y)", m, 1, "-1000 x2y1, 1000 x3y0, 0 to 0");
    }

    /** The product has no term with i + j up to 3; its remainder is what the others leave. */
    private static void lost(String first, String second, String want) {
        TaylorModels m = Check.loaded("models;a=" + first + ";b=" + second + ";");
        m.multiply(2, 0, 1);
        shows("(" + first + ") * (" + second + ")", m, 2, want);
    }

    private static void productRounding() {
        TaylorModels m = Check.loaded("models;a=1;b=1;c=0-1;d=x*x*1;e=x*1;f=y*1;");
        Check.due("1 * 1 of a thousandth", 1, m.multiply(6, 0, 1));
        shows("rounded down to 0", m, 6, "0 to 1");
        Check.due("-1 * 1 of a thousandth", 1, m.multiply(6, 0, 2));
        shows("rounded down to -1", m, 6, "-1 x0y0, 0 to 1");
        Check.due("x^2", 1, m.multiply(6, 0, 3));
        shows("x^2 is from 0 to 1", m, 6, "0 to 1");
        Check.due("x", 2, m.multiply(6, 0, 4));
        shows("x is from -1 to 1", m, 6, "-1 to 1");
        Check.due("-x", 2, m.multiply(6, 2, 4));
        shows("-x rounded down", m, 6, "-1 x1y0, -1 to 1");
        Check.due("x y", 2, m.multiply(6, 4, 5));
        shows("x y is from -1 to 1", m, 6, "-1 to 1");
        // x^4 of 10^-6: 0 to 1 millionth, rounded up to 1 thousandth.
        Check.due("x^4", 1, m.multiply(6, 3, 3));
        shows("x^4 of a millionth", m, 6, "0 to 1");
        m.setRemainder(0, -1, 0);
        m.setRemainder(1, 0, 1);
        // 1 * 0 to 1, -1 to 0 times 1, and -1 to 0 times 0 to 1: -2 to 1 millionths; and the rounding of 1.
        Check.due("tiny remainders", 3, m.multiply(6, 0, 1));
        shows("they become a thousandth each way", m, 6, "-1 to 2");
        productOfRemainders(0, 1000, 2000, 4000, "0 to 4000");
        productOfRemainders(-1500, -1100, -3000, -2900, "3190 to 4500");
        productOfRemainders(-1000, 1200, 1000, 3000, "-3000 to 3600");
        productOfRemainders(-1000, 1200, -3000, -1000, "-3600 to 3000");
        productOfRemainders(-2000, 1000, -5000, 3000, "-6000 to 10000");
        productOfRemainders(-2000, 3000, -5000, 3000, "-15000 to 10000");
        productOfRemainders(1, 1, -1001, 1001, "-2 to 2");
        productOfRemainders(1, 1, 1001, 1001, "1 to 2");
        productOfRemainders(-1, -1, 1001, 1001, "-2 to -1");
        productOfRemainders(-7, 3, 0, 0, "0 to 0");
    }

    private static void productOfRemainders(int low0, int high0, int low1, int high1, String want) {
        TaylorModels m = Check.loaded("models;a=0;b=0;");
        m.setRemainder(0, low0, high0);
        m.setRemainder(1, low1, high1);
        m.multiply(2, 0, 1);
        String call = low0 + " to " + high0 + " times " + low1 + " to " + high1;
        shows(call, m, 2, want);
    }

    private static void largestProducts() {
        TaylorModels m = Check.loaded("models;a=0;b=0;c=1000;d=0-1000;");
        m.setCoefficient(0, 1, 0, MOST);
        Check.due("10^8 x * 1", 0, m.multiply(6, 0, 2));
        shows("10^8 x", m, 6, MOST + " x1y0, 0 to 0");
        Check.due("10^8 x * -1", 0, m.multiply(6, 0, 3));
        shows("-10^8 x", m, 6, -MOST + " x1y0, 0 to 0");
        m.setCoefficient(2, 0, 0, 1001);
        Check.dueThrows("10^8 x * 1.001", STATE, () -> m.multiply(6, 0, 2));
        Check.dueThrows("10^8 x * 10^8 x", STATE, () -> m.multiply(6, 0, 0));
        for (int i = 0; i <= 3; i++) {
            for (int j = 0; i + j <= 3; j++) {
                m.setCoefficient(0, i, j, MOST);
                m.setCoefficient(1, i, j, -MOST);
            }
        }
        m.setRemainder(0, -MOST, MOST);
        m.setRemainder(1, -MOST, -MOST);
        Check.dueThrows("the largest with itself", STATE, () -> m.multiply(6, 0, 0));
        Check.dueThrows("the least with itself", STATE, () -> m.multiply(6, 1, 1));
        Check.dueThrows("the largest with the least", STATE, () -> m.multiply(6, 0, 1));
        // (10^8)^2 of a thousandth each, many times over, would wrap around in an int.
        Check.dueThrows("only the remainder is too large", STATE, () -> {
            TaylorModels n = Check.loaded("models;a=0;b=x*x*x;");
            n.setCoefficient(0, 1, 0, MOST);
            Check.due("10^8 x^4 just fits", MOST, n.multiply(7, 0, 1));
            n.setRemainder(1, 0, 1);
            return n.multiply(7, 0, 1);
        });
    }

    private static void compositions() {
        TaylorModels m = Check.loaded("models;a=x*y;b=x*500+200;c=y;d=7#3;e=x*x*x+y*y*y;f=0#1000;");
        Check.due("compose(6, 0, 1, 2)", 0, m.compose(6, 0, 1, 2));
        shows("(x / 2 + 0.2) y", m, 6, "200 x0y1, 500 x1y1, 0 to 0");
        Check.due("a constant outside", 6, m.compose(6, 3, 1, 2));
        shows("7 and its remainder", m, 6, "7 x0y0, -3 to 3");
        Check.due("compose(6, 4, 2, 1)", 0, m.compose(6, 4, 2, 1));
        shows("y^3 + (x / 2 + 0.2)^3", m, 6, "8 x0y0, 1000 x0y3, 60 x1y0, 150 x2y0, 125 x3y0, 0 to 0");
        // The constant 1 times f is -1 to 1, as f is all remainder; times f once more it is that again.
        Check.due("compose(6, 0, 5, 5)", 2000, m.compose(6, 0, 5, 5));
        shows("a remainder in both places", m, 6, "-1000 to 1000");
        Check.due("compose(0, 0, 1, 2) in place", 0, m.compose(0, 0, 1, 2));
        shows("in place of the outer one", m, 0, "200 x0y1, 500 x1y1, 0 to 0");
        Check.due("compose(1, 1, 1, 1), all the same", 0, m.compose(1, 1, 1, 1));
        shows("200 + 500 (200 + 500 x)", m, 1, "300 x0y0, 250 x1y0, 0 to 0");
        // The order of the factors counts: 1 * 0.999 is exact; 0.999 * 0.999 is 0.998001, so 998 with 0 to 1; times a
        // thousandth that is 0 with 0 to 1, and 0 to 0.001 rounded up.
        TaylorModels n = Check.loaded("models;a=x*x*y;b=999;c=1;d=0-1;");
        Check.due("999 * 999 * 1", 2, n.compose(6, 0, 1, 2));
        shows("0.999 * 0.999 * 0.001", n, 6, "0 to 2");
        // -0.001 * -0.001 is a millionth, so 0 with 0 to 1; times 0.999 that is 0 with 0 to 0.999, rounded up.
        Check.due("-1 * -1 * 999", 1, n.compose(6, 0, 3, 1));
        shows("-0.001 * -0.001 * 0.999", n, 6, "0 to 1");
    }

    private static void refusedCompositions() {
        TaylorModels m = Check.loaded("models;a=x+y;b=x+1;c=x;d=0#1001;e=999*x#2;");
        long sum = m.checksum();
        Check.dueThrows("compose with x + 1 first", STATE, () -> m.compose(6, 0, 1, 2));
        Check.dueThrows("compose with x + 1 second", STATE, () -> m.compose(6, 0, 2, 1));
        Check.dueThrows("compose with a wide remainder", STATE, () -> m.compose(6, 0, 3, 2));
        Check.dueThrows("compose of a constant too", STATE, () -> m.compose(6, 3, 3, 2));
        m.setCoefficient(0, 1, 0, MOST);
        m.setCoefficient(0, 0, 1, MOST);
        Check.dueThrows("compose, too large", STATE, () -> m.compose(6, 0, 2, 2));
        m.undo();
        m.undo();
        Check.due("nothing but the two settings was a change", sum, m.checksum());
        Check.due("load is left", 0, m.undo());
    }

    private static void antiderivatives() {
        TaylorModels m = Check.loaded("models;a=7+x*500+y*300;b=0-7+x*x*100-y*y*y;");
        Check.due("integrate(6, 0, 0)", 0, m.integrate(6, 0, 0));
        shows("by x", m, 6, "7 x1y0, 300 x1y1, 250 x2y0, 0 to 0");
        Check.due("integrate(6, 0, 1)", 0, m.integrate(6, 0, 1));
        shows("by y", m, 6, "7 x0y1, 150 x0y2, 500 x1y1, 0 to 0");
        // -7 x; 100 / 3 x^3 is 33 and -1 to 1; -y^3 x is -1000 to 1000.
        Check.due("integrate(6, 1, 0)", 2002, m.integrate(6, 1, 0));
        shows("by x, with rounding", m, 6, "-7 x1y0, 33 x3y0, -1001 to 1001");
        // -7 y; 100 x^2 y; -1 / 4 y^4 is -250 to 0.
        Check.due("integrate(6, 1, 1)", 250, m.integrate(6, 1, 1));
        shows("by y, with a range", m, 6, "-7 x0y1, 100 x2y1, -250 to 0");
        term(1, 0, 1, 0, "0 to 1");
        term(1, 0, -1, 0, "-1 x2y0, 0 to 1");
        term(1, 1, -5, 1, "-3 x1y2, -1 to 1");
        term(2, 0, -5, 0, "-2 x3y0, -1 to 1");
        term(0, 2, 6, 1, "2 x0y3, 0 to 0");
        term(3, 0, 1, 0, "0 to 1");
        term(3, 0, -1, 0, "-1 to 0");
        term(0, 3, 5, 1, "0 to 2");
        term(0, 3, -5, 1, "-2 to 0");
        term(3, 0, 8, 0, "0 to 2");
        term(2, 1, 7, 0, "-3 to 3");
        term(1, 2, 7, 0, "0 to 4");
        term(0, 3, 7, 0, "-7 to 7");
        term(2, 1, -7, 1, "-4 to 0");
        term(1, 2, -7, 1, "-3 to 3");
        term(3, 0, -7, 1, "-7 to 7");
        TaylorModels n = Check.loaded("models;a=x;");
        n.setRemainder(0, -9, 4);
        Check.due("a remainder of -9 to 4", 18, n.integrate(7, 0, 0));
        shows("becomes -9 to 9", n, 7, "500 x2y0, -9 to 9");
        n.setRemainder(0, 3, 4);
        Check.due("a remainder of 3 to 4", 8, n.integrate(0, 0, 1));
        shows("becomes -4 to 4", n, 0, "1000 x1y1, -4 to 4");
        n.setRemainder(0, -4, -3);
        Check.due("a remainder of -4 to -3", 8, n.integrate(0, 0, 1));
    }

    private static void term(int i, int j, int c, int variable, String want) {
        TaylorModels m = Check.loaded("models;a=0;");
        m.setCoefficient(0, i, j, c);
        m.integrate(0, 0, variable);
        shows("the antiderivative of " + c + " x" + i + "y" + j + " by " + variable, m, 0, want);
    }

    private static void largestAntiderivatives() {
        TaylorModels m = Check.loaded("models;a=0;");
        m.setRemainder(0, -MOST, 0);
        Check.due("the widest remainder", 2 * MOST, m.integrate(1, 0, 0));
        m.setCoefficient(0, 2, 0, 1);
        Check.dueThrows("with a rounding more", STATE, () -> m.integrate(1, 0, 0));
        Check.due("by y there is none", 2 * MOST, m.integrate(1, 0, 1));
        m.setCoefficient(0, 2, 0, 0);
        m.setCoefficient(0, 0, 3, 4);
        Check.dueThrows("with a range more", STATE, () -> m.integrate(0, 0, 1));
        shows("nothing has changed", m, 0, "4 x0y3, -100000000 to 0");
    }

    private static void steps() {
        TaylorModels m = Check.loaded("models;a=x*100;b=y*100;c=y;d=0-x;");
        Check.due("step(100, 1)", 1, m.step(100, 1));
        shows("x + 0.1 y", m, 0, "10 x0y1, 100 x1y0, 0 to 0");
        shows("y - 0.1 x, from x as it was", m, 1, "100 x0y1, -10 x1y0, 0 to 0");
        Check.due("one undo", 1, m.undo());
        Check.due("step(-500, 2)", 2, m.step(-500, 2));
        // X, Y = 100 x - 50 y, 100 y + 50 x; then X - Y / 2 and Y + X / 2.
        shows("two steps of -1/2, X", m, 0, "-100 x0y1, 75 x1y0, 0 to 0");
        shows("two steps of -1/2, Y", m, 1, "75 x0y1, 100 x1y0, 0 to 0");
        Check.due("one undo takes back both", 1, m.undo());
        shows("X as before", m, 0, "100 x1y0, 0 to 0");
        long sum = m.checksum();
        Check.due("step(0, 20)", 20, m.step(0, 20));
        Check.due("it changes no model", sum, m.checksum());
        TaylorModels n = Check.loaded("models;a=1;b=0;c=100;d=0#10;");
        Check.due("constant speeds", 9, n.step(1000, 9));
        shows("X after 9 steps of 100", n, 0, "901 x0y0, 0 to 0");
        shows("Y after 9 steps", n, 1, "-90 to 90");
        Check.due("the tenth goes out of the square, the eleventh is refused", 1, n.step(1000, 20));
        shows("X after 10 steps", n, 0, "1001 x0y0, 0 to 0");
        Check.due("none is possible now", 0, n.step(1000, 20));
        Check.due("which is a change", 3, n.undo());
    }

    private static void refusedSteps() {
        TaylorModels m = Check.loaded("models;a=0;b=1001;c=1000;d=1000;");
        Check.due("Y is outside", 0, m.step(1, 1));
        shows("X stays", m, 0, "0 to 0");
        m.setCoefficient(1, 0, 0, 0);
        m.setCoefficient(2, 0, 0, 1);
        m.setRemainder(3, -MOST, MOST);
        Check.due("the widest remainder for Y", 1, m.step(1000, 3));
        shows("Y then", m, 1, "1000 x0y0, -100000000 to 100000000");
        m.undo();
        m.setRemainder(1, 0, 1);
        Check.due("a wider one would be too large", 0, m.step(1000, 3));
        shows("X stays as it was, though its own step was possible", m, 0, "0 to 0");
        Check.due("at a smaller h it is not", 1, m.step(999, 1));
    }

    private static void sweeping() {
        TaylorModels m = Check.loaded("models;a=0;");
        int n = 1;
        for (int i = 0; i <= 3; i++) {
            for (int j = 0; i + j <= 3; j++) {
                m.setCoefficient(0, i, j, n % 2 == 0 ? n : -n);
                n++;
            }
        }
        m.setRemainder(0, -10, 20);
        Check.due("sweep(0, 0)", 0, m.sweep(0, 0));
        Check.due("sweep(0, 1), the constant stays", 0, m.sweep(0, 1));
        Check.due("sweep(0, 3)", 2, m.sweep(0, 3));
        shows("2 y and -3 y^2 are swept", m, 0, "-1 x0y0, 4 x0y3, -5 x1y0, 6 x1y1, -7 x1y2, 8 x2y0, "
                + "-9 x2y1, 10 x3y0, -15 to 22");
        Check.due("sweep(0, 3) again", 0, m.sweep(0, 3));
        Check.due("sweep(0, 8)", 5, m.sweep(0, 8));
        shows("4 y^3, -5 x, 6 x y, -7 x y^2, 8 x^2", m, 0, "-1 x0y0, -9 x2y1, 10 x3y0, -37 to 52");
        Check.due("sweep(0, 10^8)", 2, m.sweep(0, MOST));
        shows("all but the constant", m, 0, "-1 x0y0, -56 to 71");
        m.setCoefficient(0, 1, 0, MOST);
        m.setCoefficient(0, 0, 0, MOST);
        long sum = m.checksum();
        Check.dueThrows("sweep of 10^8 x on a remainder", STATE, () -> m.sweep(0, MOST));
        Check.due("it changes nothing", sum, m.checksum());
        Check.due("sweep below 10^8 x", 0, m.sweep(0, MOST - 1));
        m.setRemainder(0, 0, 0);
        Check.due("sweep of 10^8 x", 1, m.sweep(0, MOST));
        shows("a remainder as wide as there is", m, 0, MOST + " x0y0, -100000000 to 100000000");
    }

    private static void wrapping() {
        TaylorModels m = Check.loaded("models;a=200+500*x#3;b=x*x*5;c=0-x*x*5;d=x*y;");
        m.setRemainder(3, -3, 0);
        Check.due("wrap(0, 0)", 503, m.wrap(0, 0));
        shows("200 and 503 x", m, 0, "200 x0y0, 503 x1y0, 0 to 0");
        Check.due("wrap(1, 1)", 3, m.wrap(1, 1));
        shows("0 to 5: 2 and 3 y", m, 1, "2 x0y0, 3 x0y1, 0 to 0");
        Check.due("wrap(2, 0)", 3, m.wrap(2, 0));
        shows("-5 to 0: -3 and 3 x", m, 2, "-3 x0y0, 3 x1y0, 0 to 0");
        Check.due("wrap(3, 1)", 1002, m.wrap(3, 1));
        shows("-1003 to 1000: -2 and 1002 y", m, 3, "-2 x0y0, 1002 x0y1, 0 to 0");
        TaylorModels n = Check.loaded("models;a=0;b=0;");
        n.setCoefficient(0, 0, 0, MOST);
        Check.due("wrap of 10^8", 0, n.wrap(0, 0));
        n.setRemainder(0, 0, 1);
        Check.due("wrap of 10^8 to 10^8 + 1", 1, n.wrap(0, 0));
        shows("the middle is rounded down", n, 0, MOST + " x0y0, 1 x1y0, 0 to 0");
        n.setRemainder(0, 1, 2);
        n.setCoefficient(0, 1, 0, 0);
        long sum = n.checksum();
        Check.dueThrows("wrap of 10^8 + 1 to 10^8 + 2", STATE, () -> n.wrap(0, 0));
        Check.due("it changes nothing", sum, n.checksum());
        n.setCoefficient(1, 1, 0, MOST);
        Check.due("wrap of -10^8 to 10^8", MOST, n.wrap(1, 1));
        n.setRemainder(1, 0, 1);
        Check.dueThrows("wrap of -10^8 to 10^8 + 1", STATE, () -> n.wrap(1, 0));
    }

    private static void ternaryExceptions() {
        Ternary[] calls = {TaylorModels::add, TaylorModels::subtract, TaylorModels::multiply,
            (m, t, a, b) -> m.compose(t, a, b, a), (m, t, a, b) -> m.compose(t, b, a, a),
            (m, t, a, b) -> m.compose(t, a, a, b)};
        for (int k = 0; k < calls.length; k++) {
            Ternary call = calls[k];
            TaylorModels m = Check.loaded("models;a=x;");
            for (int none : new int[] {-1, 8, Integer.MAX_VALUE, Integer.MIN_VALUE}) {
                String name = "call " + k + " with " + none;
                Check.dueThrows(name + " as target", INDEX, () -> call.answer(m, none, 7, 7));
                Check.dueThrows(name + " as first", INDEX, () -> call.answer(m, 0, none, 7));
                Check.dueThrows(name + " as second", INDEX, () -> call.answer(m, 0, 7, none));
            }
            Check.dueThrows("call " + k + " without first", MISSING, () -> call.answer(m, 0, 7, 0));
            Check.dueThrows("call " + k + " without second", MISSING, () -> call.answer(m, 0, 0, 7));
            Check.due("none of them is a change", 0, m.undo());
            Check.load(m, "models;a=x;");
            call.answer(m, 7, 0, 0);
            Check.due("the target need not be defined", 129, m.defined());
        }
    }

    private static void otherExceptions() {
        TaylorModels m = Check.loaded("models;a=x;b=x;c=x;");
        for (int none : new int[] {-1, 8}) {
            Check.dueThrows("integrate(" + none + ", 7, 2)", INDEX, () -> m.integrate(none, 7, 2));
            Check.dueThrows("integrate(7, " + none + ", 2)", INDEX, () -> m.integrate(7, none, 2));
            Check.dueThrows("sweep(" + none + ", -1)", INDEX, () -> m.sweep(none, -1));
            Check.dueThrows("wrap(" + none + ", 2)", INDEX, () -> m.wrap(none, 2));
        }
        Check.dueThrows("integrate(0, 7, 2)", MISSING, () -> m.integrate(0, 7, 2));
        Check.dueThrows("sweep(7, -1)", MISSING, () -> m.sweep(7, -1));
        Check.dueThrows("wrap(7, 2)", MISSING, () -> m.wrap(7, 2));
        for (int n : new int[] {-1, 2, Integer.MIN_VALUE, Integer.MAX_VALUE}) {
            Check.dueThrows("integrate(7, 0, " + n + ")", ARGUMENT, () -> m.integrate(7, 0, n));
            Check.dueThrows("wrap(0, " + n + ")", ARGUMENT, () -> m.wrap(0, n));
        }
        for (int n : new int[] {-1, MOST + 1, Integer.MIN_VALUE, Integer.MAX_VALUE}) {
            Check.dueThrows("sweep(0, " + n + ")", ARGUMENT, () -> m.sweep(0, n));
        }
        Check.dueThrows("step(2000, 30) without d", MISSING, () -> m.step(2000, 30));
        m.add(3, 0, 0);
        for (int n : new int[] {-1001, 1001, Integer.MIN_VALUE, Integer.MAX_VALUE}) {
            Check.dueThrows("step(" + n + ", 1)", ARGUMENT, () -> m.step(n, 1));
        }
        for (int n : new int[] {0, -1, 21, Integer.MIN_VALUE, Integer.MAX_VALUE}) {
            Check.dueThrows("step(0, " + n + ")", ARGUMENT, () -> m.step(0, n));
        }
        for (int k = 0; k < 4; k++) {
            int missing = k;
            m.clear(missing);
            Check.dueThrows("step(2000, 0) without " + missing, MISSING, () -> m.step(2000, 0));
            m.undo();
        }
        Check.due("load and add are the only changes", 1, m.undo());
    }
}
