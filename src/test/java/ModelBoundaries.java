/** The sentences of the document's "Terms" on numbers, intervals and models: what is just inside, and just outside. */
final class ModelBoundaries {
    private static final String TERMS = "Terms";
    private static final int MOST = 100000000;
    private static final String TOO_LARGE = "throws.IllegalStateException";
    /** The x^i y^j with two even exponents, but for the constant; all others have at least one odd exponent. */
    private static final String EVEN = " 02 20 04 22 40 06 24 42 60 ";

    private ModelBoundaries() {
    }

    static void check() {
        lastCall();
        thousandths();
        rounding();
        ends();
        productOfIntervals();
        names();
        places();
        largestSum();
        largestDifference();
        largestProduct();
        largestComposition();
        largestAntiderivative();
        largestSwept();
        largestWrapped();
        tooLargeOnTheWay();
        greaterWithinOne();
        square();
        ranges();
        rangesOfProducts();
        boundOfModel();
        constantsAndVariables();
    }

    static boolean even(int i, int j) {
        return EVEN.contains(" " + i + j + " ");
    }

    /** The range of a number times x^i y^j. */
    static String range(int n, int i, int j) {
        int low = i + j == 0 ? n : even(i, j) ? (n < 0 ? n : 0) : (n < 0 ? n : -n);
        int high = i + j == 0 ? n : even(i, j) ? (n < 0 ? 0 : n) : (n < 0 ? -n : n);
        return low + " to " + high;
    }

    static String term(int n, int i, int j) {
        return n == 0 ? "" : n + " x" + i + "y" + j + ", ";
    }

    private static void sum(String first, String second, String want) {
        TaylorModels m = Check.holding(first, second);
        Check.due("(" + first + ") + (" + second + ")", want, Check.becomes(m, 2, () -> m.add(2, 0, 1)));
    }

    private static void difference(String first, String second, String want) {
        TaylorModels m = Check.holding(first, second);
        Check.due("(" + first + ") - (" + second + ")", want, Check.becomes(m, 2, () -> m.subtract(2, 0, 1)));
    }

    static void product(String first, String second, String want) {
        TaylorModels m = Check.holding(first, second);
        Check.due("(" + first + ") * (" + second + ")", want, Check.becomes(m, 2, () -> m.multiply(2, 0, 1)));
    }

    static void composition(String outer, String first, String second, String want) {
        TaylorModels m = Check.holding(outer, first, second);
        Check.due("(" + outer + ")[" + first + "; " + second + "]", want,
                Check.becomes(m, 3, () -> m.compose(3, 0, 1, 2)));
    }

    static void antiderivative(String model, int variable, String want) {
        TaylorModels m = Check.holding(model);
        Check.due("antiderivative of " + model + " by " + variable, want,
                Check.becomes(m, 1, () -> m.integrate(1, 0, variable)));
    }

    private static void swept(String model, int limit, String want) {
        TaylorModels m = Check.holding(model);
        Check.due(model + " swept up to " + limit, want, Check.becomes(m, 0, () -> m.sweep(0, limit)));
    }

    private static void wrapped(String model, int variable, String want) {
        TaylorModels m = Check.holding(model);
        Check.due(model + " wrapped by " + variable, want, Check.becomes(m, 0, () -> m.wrap(0, variable)));
    }

    private static void lastCall() {
        Check.sentence("What it is", "An object is used for at most 512 calls after it has been made; what later calls "
                + "answer is free.");
        TaylorModels m = new TaylorModels();
        // "models;a=x;b=y;" ... "c=y;d=0-x; "
        m.append(0x6d6f6465, 0x6c733b61, 0x3d783b62, 0x3d793b63, 0x3d793b64);
        m.append(0x3d302d78, 0x3b202020, 0x20202020, 0x20202020, 0x20202020);
        Check.due("call 3, load(26)", 4, m.load(26));
        for (int call = 4; call <= 500; call++) {
            Check.due("call " + call + ", step(0, 20)", 20, m.step(0, 20));
        }
        for (int call = 501; call <= 509; call++) {
            Check.due("call " + call + ", setCoefficient", call == 501 ? 0 : call - 1, m.setCoefficient(3, 1, 1, call));
        }
        Check.due("call 510, undo()", 7, m.undo());
        Check.due("call 511, coefficient(3, 1, 1)", 508, m.coefficient(3, 1, 1));
        Check.due("call 512, multiply(7, 0, 1)", 0, m.multiply(7, 0, 1));
    }

    private static void thousandths() {
        Check.sentence(TERMS, "All values (coefficients, ends of intervals, coordinates) are in thousandths: 1000 stands for "
                + "1.");
        product("7 x0y0, 0 to 0", "1000 x0y0, 0 to 0", "7 x0y0, 0 to 0");
        product("7 x0y0, 0 to 0", "1001 x0y0, 0 to 0", "7 x0y0, 0 to 1");
        product("7 x0y0, 0 to 0", "999 x0y0, 0 to 0", "6 x0y0, 0 to 1");
        product("-70 to 90", "1000 x0y0, 0 to 0", "-70 to 90");
        product("1000 to 1000", "-70 to 90", "-70 to 90");
        Check.due("7 x at 1", 7, Check.holding("7 x1y0, 0 to 0").value(0, 1000, 0, 1));
        Check.due("7 x at 0.999", 6, Check.holding("7 x1y0, 0 to 0").value(0, 999, 0, 0));
    }

    private static void rounding() {
        Check.sentence(TERMS, "Rounding down gives the greatest integer that is not greater, rounding up the smallest "
                + "one that is not smaller.");
        int[][] quotients = {{0, 0, 0}, {1, 0, 1}, {999, 0, 1}, {1000, 1, 1}, {1001, 1, 2}, {1999, 1, 2}, {2000, 2, 2},
            {-1, -1, 0}, {-999, -1, 0}, {-1000, -1, -1}, {-1001, -2, -1}, {-1999, -2, -1}, {-2000, -2, -2}};
        for (int[] q : quotients) {
            String rest = q[1] == q[2] ? "0 to 0" : "0 to 1";
            product(q[0] + " x0y0, 0 to 0", "1 x0y0, 0 to 0", term(q[1], 0, 0) + rest);
            product(q[0] + " to " + q[0], "1 x0y0, 0 to 0", q[1] + " to " + q[2]);
            TaylorModels m = Check.holding(q[0] + " x1y0, 0 to 0");
            Check.due(q[0] + " x at 0.001, down", q[1], m.value(0, 1, 0, 0));
            Check.due(q[0] + " x at 0.001, up", q[2], m.value(0, 1, 0, 1));
        }
    }

    private static void ends() {
        Check.sentence(TERMS, "An interval has a lower and an upper end, which is not less.");
        for (int n : new int[] {-MOST, -5, 0, 5, MOST}) {
            TaylorModels m = Check.holding("-1 to 1");
            Check.due(n + " to " + n, 2, m.setRemainder(0, n, n));
            Check.due("the lower end", n, m.remainder(0, 0));
            Check.due("the upper end", n, m.remainder(0, 1));
            Check.dueThrows(n + " to one less", IllegalArgumentException.class, () -> m.setRemainder(0, n, n - 1));
        }
        Check.sentence(TERMS, "The sum of two intervals has the sums of the lower ends and of the upper ends.");
        sum("-3 to 5", "-20 to 70", "-23 to 75");
        sum("3 to 3", "-4 to -4", "-1 to -1");
        Check.sentence(TERMS, "The remainder of the sum is the sum of the remainders; that of the difference is the "
                + "remainder of the first one plus the interval from minus the upper end to minus the lower end of the "
                + "second one's remainder.");
        sum("-3 to 5", "0 to 0", "-3 to 5");
        difference("-3 to 5", "-20 to 70", "-73 to 25");
        difference("-3 to 5", "0 to 0", "-3 to 5");
        difference("0 to 0", "-3 to 5", "-5 to 3");
        difference("3 to 3", "3 to 3", "0 to 0");
        Check.sentence(TERMS, "The sum (difference) of two models has the sums (differences) of the coefficients.");
        sum("1 x0y0, 3 x0y3, -7 x2y1, 0 to 0", "5 x0y0, -3 x0y3, 4 x3y0, 0 to 0", "6 x0y0, -7 x2y1, 4 x3y0, 0 to 0");
        difference("1 x0y0, 3 x0y3, -7 x2y1, 0 to 0", "5 x0y0, 3 x0y3, 4 x3y0, 0 to 0",
                "-4 x0y0, -7 x2y1, -4 x3y0, 0 to 0");
    }

    /** The remainders of models without a polynomial: each of the four products is the smallest, and the greatest. */
    private static void productOfIntervals() {
        Check.sentence(TERMS, "The product of two intervals has, as ends, the smallest and the greatest of the four "
                + "products of an end of one and an end of the other.");
        product("1000 to 2000", "3000 to 5000", "3000 to 10000");
        product("-2000 to -1000", "-5000 to -3000", "3000 to 10000");
        product("1000 to 2000", "-5000 to -3000", "-10000 to -3000");
        product("-2000 to -1000", "3000 to 5000", "-10000 to -3000");
        product("-2000 to 1000", "-5000 to 3000", "-6000 to 10000");
        product("-1000 to 2000", "-3000 to 5000", "-6000 to 10000");
        product("-2000 to 1000", "-3000 to 5000", "-10000 to 6000");
        product("-1000 to 2000", "-5000 to 3000", "-10000 to 6000");
        product("0 to 1000", "0 to 2000", "0 to 2000");
        product("0 to 1000", "-2000 to 0", "-2000 to 0");
        product("-1000 to 0", "-2000 to 0", "0 to 2000");
        product("-7000 to 3000", "0 to 0", "0 to 0");
        product("2000 to 2000", "-3000 to -3000", "-6000 to -6000");
    }

    private static void names() {
        Check.sentence(TERMS, "There are 8 models, with indexes from 0 and the names a to h in this order.");
        TaylorModels m = Check.loaded("models;a=1;b=2;c=3;d=4;e=5;f=6;g=7;h=8;");
        for (int k = 0; k < 8; k++) {
            Check.due("the constant of model " + k, k + 1, m.coefficient(k, 0, 0));
        }
        for (int none : new int[] {-1, 8}) {
            Check.dueThrows("degree(" + none + ")", IndexOutOfBoundsException.class, () -> m.degree(none));
        }
        for (char c = 'a'; c <= 'z'; c++) {
            TaylorModels n = new TaylorModels();
            int fine = c <= 'h' ? 1 : TaylorModels.SYNTAX_ERROR;
            Check.due("a model named " + c, fine, Check.load(n, "models;" + c + "=1;"));
            Check.due("the set of it", c <= 'h' ? 1 << c - 'a' : 0, n.defined());
        }
    }

    private static void places() {
        Check.sentence(TERMS, "a coefficient for each x^i y^j with i >= 0, j >= 0 and i + j <= 3");
        TaylorModels m = Check.holding("0 to 0");
        int asked = 0;
        for (int i = -1; i <= 4; i++) {
            for (int j = -1; j <= 4; j++) {
                int x = i;
                int y = j;
                if (i >= 0 && j >= 0 && i + j <= 3) {
                    asked++;
                    Check.due("setting x" + i + "y" + j, 0, m.setCoefficient(0, i, j, 10 * i + j + 1));
                } else {
                    Check.dueThrows("coefficient(0, " + i + ", " + j + ")", IllegalArgumentException.class,
                            () -> m.coefficient(0, x, y));
                    Check.dueThrows("setCoefficient(0, " + i + ", " + j + ", 1)", IllegalArgumentException.class,
                            () -> m.setCoefficient(0, x, y, 1));
                }
            }
        }
        Check.due("the number of coefficients", 10, asked);
        Check.due("each has its own place", "1 x0y0, 2 x0y1, 3 x0y2, 4 x0y3, 11 x1y0, 12 x1y1, 13 x1y2, 21 x2y0, "
                + "22 x2y1, 31 x3y0, 0 to 0", Check.shown(m, 0));
    }

    private static void tooLargeSentence() {
        Check.sentence(TERMS, "All coefficients and both ends of the remainder must be from -100000000 to 100000000; a "
                + "model for which this would not be so is too large");
    }

    private static void largestSum() {
        tooLargeSentence();
        for (int i = 0; i <= 3; i++) {
            for (int j = 0; i + j <= 3; j++) {
                sum(term(MOST - 1, i, j) + "0 to 0", term(1, i, j) + "0 to 0", term(MOST, i, j) + "0 to 0");
                sum(term(MOST, i, j) + "0 to 0", term(1, i, j) + "0 to 0", TOO_LARGE);
                sum(term(1 - MOST, i, j) + "0 to 0", term(-1, i, j) + "0 to 0", term(-MOST, i, j) + "0 to 0");
                sum(term(-MOST, i, j) + "0 to 0", term(-1, i, j) + "0 to 0", TOO_LARGE);
            }
        }
        sum("-99999999 to 99999999", "-1 to 1", "-100000000 to 100000000");
        sum("-99999999 to 99999999", "-1 to 2", TOO_LARGE);
        sum("-99999999 to 99999999", "-2 to 1", TOO_LARGE);
        sum("99999999 to 99999999", "1 to 1", "100000000 to 100000000");
        sum("99999999 to 99999999", "2 to 2", TOO_LARGE);
        sum("-99999999 to -99999999", "-1 to -1", "-100000000 to -100000000");
        sum("-99999999 to -99999999", "-2 to -2", TOO_LARGE);
    }

    private static void largestDifference() {
        tooLargeSentence();
        for (int i = 0; i <= 3; i++) {
            for (int j = 0; i + j <= 3; j++) {
                difference(term(MOST - 1, i, j) + "0 to 0", term(-1, i, j) + "0 to 0", term(MOST, i, j) + "0 to 0");
                difference(term(MOST, i, j) + "0 to 0", term(-1, i, j) + "0 to 0", TOO_LARGE);
                difference(term(1 - MOST, i, j) + "0 to 0", term(1, i, j) + "0 to 0", term(-MOST, i, j) + "0 to 0");
                difference(term(-MOST, i, j) + "0 to 0", term(1, i, j) + "0 to 0", TOO_LARGE);
            }
        }
        difference("-99999999 to 99999999", "-1 to 1", "-100000000 to 100000000");
        difference("-99999999 to 99999999", "-2 to 1", TOO_LARGE);
        difference("-99999999 to 99999999", "-1 to 2", TOO_LARGE);
    }

    private static void largestProduct() {
        tooLargeSentence();
        for (int i = 0; i <= 3; i++) {
            for (int j = 0; i + j <= 3; j++) {
                String most = term(MOST, i, j) + "0 to 0";
                product(most, "1000 x0y0, 0 to 0", most);
                product(most, "1001 x0y0, 0 to 0", TOO_LARGE);
                product("-1000 x0y0, 0 to 0", most, term(-MOST, i, j) + "0 to 0");
                product("-1001 x0y0, 0 to 0", most, TOO_LARGE);
            }
        }
        product("0 to 100000000", "1000 x0y0, 0 to 0", "0 to 100000000");
        product("0 to 100000000", "1001 x0y0, 0 to 0", TOO_LARGE);
        product("0 to 100000000", "-1000 x0y0, 0 to 0", "-100000000 to 0");
        product("0 to 100000000", "-1001 x0y0, 0 to 0", TOO_LARGE);
        // 49975011 * 2.001 is 99999997.011, 49975012 * 2.001 is 99999999.012; 0.001 * 2.001 is rounded, for 1 more.
        product("1 x0y0, 0 to 49975011", "2001 x0y0, 0 to 0", "2 x0y0, 0 to 99999999");
        product("0 to 49975012", "2001 x0y0, 0 to 0", "0 to 100000000");
        product("1 x0y0, 0 to 49975012", "2001 x0y0, 0 to 0", TOO_LARGE);
        product("1 x1y0, -49975011 to 0", "2001 x0y0, 0 to 0", "2 x1y0, -99999999 to 1");
        product("1 x1y0, -49975012 to 0", "2001 x0y0, 0 to 0", TOO_LARGE);
        product("1 x0y2, -49975012 to 0", "2001 x0y0, 0 to 0", "2 x0y2, -100000000 to 1");
        product("100000000 x2y0, 0 to 0", "1000 x0y2, 0 to 0", "0 to 100000000");
        product("100000000 x2y0, 0 to 0", "1001 x0y2, 0 to 0", TOO_LARGE);
        product("100000000 x2y0, 0 to 0", "-1000 x0y2, 0 to 0", "-100000000 to 0");
        product("100000000 x2y0, 0 to 0", "-1001 x0y2, 0 to 0", TOO_LARGE);
    }

    private static void largestComposition() {
        tooLargeSentence();
        composition("100000000 x0y0, 0 to 0", "0 to 0", "0 to 0", "100000000 x0y0, 0 to 0");
        composition("100000000 x1y0, 0 to 0", "1000 x1y0, 0 to 0", "0 to 0", "100000000 x1y0, 0 to 0");
        composition("100000000 x1y0, 1 x0y1, 0 to 0", "1000 x1y0, 0 to 0", "0 to 0", "100000000 x1y0, 0 to 0");
        composition("100000000 x1y0, 1 x0y1, 0 to 0", "1000 x1y0, 0 to 0", "1000 x1y0, 0 to 0", TOO_LARGE);
        composition("100000000 x1y0, -1 x0y1, 0 to 0", "1000 x1y0, 0 to 0", "1000 x1y0, 0 to 0",
                "99999999 x1y0, 0 to 0");
        composition("-100000000 x1y0, -1 x0y1, 0 to 0", "1000 x1y0, 0 to 0", "1000 x1y0, 0 to 0", TOO_LARGE);
        // 10^8 times a remainder of a thousandth is 10^5; the remainder of the outer one comes on top.
        composition("100000000 x1y0, 0 to 99900000", "-1 to 1", "0 to 0", "-100000 to 100000000");
        composition("100000000 x1y0, 0 to 99900001", "-1 to 1", "0 to 0", TOO_LARGE);
        composition("100000000 x1y0, -99900000 to 0", "-1 to 1", "0 to 0", "-100000000 to 100000");
        composition("100000000 x1y0, -99900001 to 0", "-1 to 1", "0 to 0", TOO_LARGE);
    }

    private static void largestAntiderivative() {
        tooLargeSentence();
        for (int variable = 0; variable <= 1; variable++) {
            antiderivative("100000000 x0y0, 0 to 0", variable,
                    term(MOST, 1 - variable, variable) + "0 to 0");
            antiderivative("-100000000 to 7", variable, "-100000000 to 100000000");
            antiderivative("-7 to 100000000", variable, "-100000000 to 100000000");
        }
        // x^2 becomes x^3 / 3, rounded, with -1 to 1; y becomes y^2 / 2, with 0 to 1.
        antiderivative("3 x2y0, 0 to 100000000", 0, "1 x3y0, -100000000 to 100000000");
        antiderivative("4 x2y0, 0 to 99999999", 0, "1 x3y0, -100000000 to 100000000");
        antiderivative("4 x2y0, 0 to 100000000", 0, TOO_LARGE);
        antiderivative("2 x0y1, 0 to 100000000", 1, "1 x0y2, -100000000 to 100000000");
        antiderivative("3 x0y1, 0 to 99999999", 1, "1 x0y2, -99999999 to 100000000");
        antiderivative("3 x0y1, 0 to 100000000", 1, TOO_LARGE);
        // x^3 becomes x^4 / 4, which goes to the remainder.
        antiderivative("4 x3y0, 0 to 99999999", 0, "-99999999 to 100000000");
        antiderivative("5 x3y0, 0 to 99999999", 0, TOO_LARGE);
        antiderivative("-4 x3y0, 0 to 99999999", 0, "-100000000 to 99999999");
        antiderivative("-5 x3y0, 0 to 99999999", 0, TOO_LARGE);
    }

    private static void largestSwept() {
        tooLargeSentence();
        swept("1 x1y0, -99999999 to 99999999", 1, "-100000000 to 100000000");
        swept("1 x1y0, -100000000 to 99999999", 1, TOO_LARGE);
        swept("1 x1y0, -99999999 to 100000000", 1, TOO_LARGE);
        swept("1 x1y0, -100000000 to 100000000", 0, "1 x1y0, -100000000 to 100000000");
        swept("1 x2y0, -100000000 to 99999999", 1, "-100000000 to 100000000");
        swept("1 x2y0, 0 to 100000000", 1, TOO_LARGE);
        swept("-1 x2y0, -99999999 to 100000000", 1, "-100000000 to 100000000");
        swept("-1 x2y0, -100000000 to 0", 1, TOO_LARGE);
        swept("100000000 x0y2, 0 to 0", MOST, "0 to 100000000");
        swept("100000000 x0y2, 0 to 1", MOST, TOO_LARGE);
        swept("-100000000 x3y0, 0 to 0", MOST, "-100000000 to 100000000");
        swept("-100000000 x3y0, 1 x0y0, 0 to 0", MOST, "1 x0y0, -100000000 to 100000000");
        swept("-100000000 x3y0, 1 x0y1, 0 to 0", MOST, TOO_LARGE);
    }

    private static void largestWrapped() {
        tooLargeSentence();
        wrapped("100000000 x0y0, 0 to 0", 0, "100000000 x0y0, 0 to 0");
        wrapped("100000000 x0y0, 0 to 1", 0, "100000000 x0y0, 1 x1y0, 0 to 0");
        wrapped("100000000 x0y0, 0 to 2", 0, TOO_LARGE);
        wrapped("100000000 x0y0, 1 to 1", 0, TOO_LARGE);
        wrapped("-100000000 x0y0, -1 to 1", 1, "-100000000 x0y0, 1 x0y1, 0 to 0");
        wrapped("-100000000 x0y0, -1 to 0", 1, TOO_LARGE);
        wrapped("100000000 x1y0, 0 to 0", 0, "100000000 x1y0, 0 to 0");
        wrapped("100000000 x1y0, 0 to 1", 0, TOO_LARGE);
        wrapped("100000000 x1y0, -1 to 0", 0, TOO_LARGE);
        wrapped("99999999 x1y0, 0 to 1", 0, "100000000 x1y0, 0 to 0");
        wrapped("99999999 x1y0, -1 to 0", 1, "-1 x0y0, 100000000 x0y1, 0 to 0");
        // The bound is -3 * 10^8 to -10^8: the middle is too large, but not the half of the width.
        wrapped("-100000000 x0y0, 100000000 x1y0, -100000000 to -100000000", 0, TOO_LARGE);
    }

    private static void tooLargeOnTheWay() {
        Check.sentence(TERMS, "(also one that is the result of a sum, product or other operation on the way;");
        text("h=100000*100000*10000;a=h-1+1;", 2);
        text("h=100000*100000*10000;a=h+1-1;", TaylorModels.REFUSED);
        text("h=100000*100000*10000;a=h+(1-1);", 2);
        text("h=100000*100000*10000;a=h*1000*0;", 2);
        text("h=100000*100000*10000;a=h*1001*0;", TaylorModels.REFUSED);
        text("h=100000*100000*10000;a=h*(1001*0);", 2);
        text("h=0#100000;h=h*100000*10000;a=intx(h+x)*0;", 2);
        text("h=0#100000;h=h*100000*10000;a=inty(h+x*y)*0;", 2);
        text("h=0#100000;h=h*100000*10000;a=intx(h+x*x)*0;", TaylorModels.REFUSED);
        // The sums within a composition: 10^8 times the second, then 1 times the first, and the outer remainder last.
        composition("1 x1y0, 100000000 x0y1, -5 to -5", "0 to 0", "0 to 1000", "-5 to 99999995");
        composition("1 x1y0, 100000000 x0y1, -5 to -5", "0 to 1000", "0 to 1000", TOO_LARGE);
        composition("1 x1y0, 99999999 x0y1, -5 to -5", "0 to 1000", "0 to 1000", "-5 to 99999995");
        composition("1 x1y0, 100000000 x0y1, 5 to 5", "-1000 to 0", "-1000 to 0", TOO_LARGE);
        composition("1 x1y0, 99999999 x0y1, 5 to 5", "-1000 to 0", "-1000 to 0", "-99999995 to 5");
        // The products within a composition: 2 x^2 - 1 is within the square, and doubles a coefficient.
        composition("50000000 x1y1, 0 to 0", "-1000 x0y0, 2000 x2y0, 0 to 0", "0 to 0", "0 to 0");
        composition("50000001 x1y1, 0 to 0", "-1000 x0y0, 2000 x2y0, 0 to 0", "0 to 0", TOO_LARGE);
        stepOnTheWay();
    }

    private static void text(String statements, int want) {
        Check.due("models;" + statements, want, Check.load(new TaylorModels(), "models;" + statements));
    }

    /** With h = 0 nothing is left of F[X, Y], but it must not be too large either; nor must G[X, Y]. */
    private static void stepOnTheWay() {
        String x = "1000 x1y0, 0 to 0";
        String fits = "100000000 x1y0, 0 to 0";
        String not = "100000000 x1y0, 1 x0y1, 0 to 0";
        Check.due("step with F and G that fit", 20, Check.holding(x, x, fits, fits).step(0, 20));
        Check.due("step with an F[X, Y] that is too large", 0, Check.holding(x, x, not, fits).step(0, 20));
        Check.due("step with a G[X, Y] that is too large", 0, Check.holding(x, x, fits, not).step(0, 20));
        String wide = "-100000000 to 100000000";
        Check.due("X plus a remainder that fits", 1, Check.holding("0 to 0", "0 to 0", wide, "0 to 0").step(1000, 1));
        Check.due("X plus one that does not", 0, Check.holding("0 to 1", "0 to 0", wide, "0 to 0").step(1000, 1));
        Check.due("Y plus a remainder that fits", 1, Check.holding("0 to 0", "0 to 0", "0 to 0", wide).step(-1000, 1));
        Check.due("Y plus one that does not", 0, Check.holding("0 to 0", "-1 to 0", "0 to 0", wide).step(-1000, 1));
        Check.due("the same with a smaller h", 1, Check.holding("0 to 0", "-1 to 0", "0 to 0", wide).step(-999, 1));
    }

    private static void greaterWithinOne() {
        Check.sentence(TERMS, "numbers within one operation, like e, spreads or intervals in millionths, and bounds can "
                + "be greater)");
        // e is 10^11, and the sum for x^2 is 1.6 * 10^9 - 1.6 * 10^9.
        product("100000000 x0y0, 0 to 0", "1000 x0y0, 0 to 0", "100000000 x0y0, 0 to 0");
        product("1000 x0y0, 40000 x1y0, 0 to 0", "1000 x0y0, -40000 x1y0, 1600000 x2y0, 0 to 0",
                "1000 x0y0, 64000000 x3y0, 0 to 0");
        // The spread is -2 * 10^8 to 2 * 10^8, the interval -10^11 to 10^11 millionths.
        product("100000000 x1y0, 100000000 x0y1, 0 to 0", "-500 to 500", "-100000000 to 100000000");
        product("100000000 x1y0, 100000000 x0y1, 0 to 0", "-501 to 501", TOO_LARGE);
        // 10^16 millionths from the one product of intervals, and -10^16 from the other one.
        product("100000000 to 100000000", "100000000 x0y0, -100000000 to -100000000", "0 to 0");
        product("100000000 to 100000000", "100000000 x0y0, -99999999 to -99999999", "100000 to 100000");
        TaylorModels m = Check.holding("100000000 x0y0, 100000000 x2y0, 100000000 x0y2, 0 to 100000000",
                "-100000000 x0y0, -100000000 x2y0, -100000000 x0y2, -100000000 to 0");
        Check.due("a bound of 4 * 10^8", 4 * MOST, m.bound(0, 1));
        Check.due("a bound of -4 * 10^8", -4 * MOST, m.bound(1, 0));
        Check.due("differences of 2 * 10^8 for covers", false, Check.answerOf(m.covers(0, 1)) == 1);
        // Wrapped, r + s is -2 * 10^8 + 1 and the like; what becomes of it fits.
        wrapped("-100000000 x0y0, 0 to 1", 0, "-100000000 x0y0, 1 x1y0, 0 to 0");
    }

    private static void square() {
        Check.sentence(TERMS, "x and y are from -1 to 1 (-1000 to 1000 thousandths).");
        TaylorModels m = Check.holding("1000 x1y0, 500 x0y1, 0 to 0");
        for (int end : new int[] {-1000, 1000}) {
            int beyond = end < 0 ? end - 1 : end + 1;
            Check.due("value at x = " + end, end, m.value(0, end, 0, 0));
            Check.due("value at y = " + end, end / 2, m.value(0, 0, end, 1));
            Check.dueThrows("value at x = " + beyond, IllegalArgumentException.class, () -> m.value(0, beyond, 0, 0));
            Check.dueThrows("value at y = " + beyond, IllegalArgumentException.class, () -> m.value(0, 0, beyond, 1));
        }
    }

    private static void ranges() {
        Check.sentence(TERMS, "n to n if i and j are 0; otherwise, if both are even, the smaller one of n and 0 to the "
                + "greater one; otherwise -|n| to |n|.");
        for (int i = 0; i <= 3; i++) {
            for (int j = 0; i + j <= 3; j++) {
                for (int n : new int[] {-MOST, -7, 0, 7, MOST}) {
                    TaylorModels m = Check.holding(term(n, i, j) + "0 to 0");
                    String bound = m.bound(0, 0) + " to " + m.bound(0, 1);
                    Check.due("the bound of " + n + " x" + i + "y" + j, range(n, i, j), bound);
                    if (i + j > 0) {
                        swept(term(n, i, j) + "0 to 0", MOST, range(n, i, j));
                    }
                }
            }
        }
    }

    /** The product of two terms: within the third degree a coefficient, beyond it a range of the remainder. */
    private static void rangesOfProducts() {
        for (int i = 0; i <= 3; i++) {
            for (int j = 0; i + j <= 3; j++) {
                for (int k = 0; k <= 3; k++) {
                    for (int l = 0; k + l <= 3; l++) {
                        productOfTerms(term(1000, i, j), term(1, k, l), i + k, j + l);
                    }
                }
            }
        }
    }

    private static void productOfTerms(String first, String second, int i, int j) {
        Check.sentence(TERMS, "for each x^i y^j with i + j <= 6, let e be the sum of all products of a coefficient of A "
                + "and one of B whose exponents add up to i and j.");
        boolean kept = i + j <= 3;
        product(first + "0 to 0", second + "0 to 0", kept ? term(1, i, j) + "0 to 0" : range(1, i, j));
        product(first + "0 to 0", "-" + second + "0 to 0", kept ? term(-1, i, j) + "0 to 0" : range(-1, i, j));
        if (kept) {
            Check.sentence(TERMS, "If i + j <= 3, the coefficient of the product is e / 1000 rounded down; if this is "
                    + "not exact, the range of 1 times x^i y^j (0 to 1 if i and j are 0) is added to the remainder.");
            String rest = i + j == 0 ? "0 to 1" : range(1, i, j);
            String tenth = first.replaceFirst("000", "00");
            product(tenth + "0 to 0", second + "0 to 0", rest);
            product(tenth + "0 to 0", "-" + second + "0 to 0", term(-1, i, j) + rest);
        } else {
            Check.sentence(TERMS, "the sum of the ranges of e times x^i y^j for all i, j with i + j > 3");
            String tenth = first.replaceFirst("000", "00");
            product(tenth + "0 to 0", second + "0 to 0", range(1, i, j));
            product(tenth + "0 to 0", "-" + second + "0 to 0", range(-1, i, j));
        }
    }

    private static void boundOfModel() {
        Check.sentence(TERMS, "The spread of a polynomial is the sum of the ranges of its coefficients times their x^i "
                + "y^j. The bound of a model is its spread plus its remainder.");
        TaylorModels m = Check.holding("5 x0y0, 20 x2y0, 300 x1y1, -7 to 9000", "0 to 0", "-3 to -3");
        Check.due("the lower end of the bound", 5 - 300 - 7, m.bound(0, 0));
        Check.due("the upper end of the bound", 5 + 20 + 300 + 9000, m.bound(0, 1));
        Check.due("the lower end of the bound of 0", 0, m.bound(1, 0));
        Check.due("the upper end of the bound of 0", 0, m.bound(1, 1));
        Check.due("the lower end of the bound of a remainder alone", -3, m.bound(2, 0));
        Check.due("the upper end of the bound of a remainder alone", -3, m.bound(2, 1));
    }

    private static void constantsAndVariables() {
        Check.sentence(TERMS, "The constant n is the model with the coefficient n for x^0 y^0 and 0 for all others, and "
                + "with the remainder 0 to 0.");
        Check.due("0", "0 to 0", Check.shown(Check.loaded("models;a=0;"), 0));
        Check.due("1", "1 x0y0, 0 to 0", Check.shown(Check.loaded("models;a=x#9;a=1;"), 0));
        Check.due("100000", "100000 x0y0, 0 to 0", Check.shown(Check.loaded("models;a=100000;"), 0));
        Check.sentence(TERMS, "The variable x is the model with the coefficient 1000 for x^1 y^0, 0 for all others, and "
                + "the remainder 0 to 0; likewise y.");
        Check.due("x", "1000 x1y0, 0 to 0", Check.shown(Check.loaded("models;a=7*y#9;a=x;"), 0));
        Check.due("y", "1000 x0y1, 0 to 0", Check.shown(Check.loaded("models;a=7*x#9;a=y;"), 0));
    }
}
