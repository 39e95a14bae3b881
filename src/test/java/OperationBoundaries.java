/** The sentences of the document's "Terms" on products, compositions, antiderivatives and steps. */
final class OperationBoundaries {
    private static final String TERMS = "Terms";
    private static final int MOST = 100000000;
    private static final String TOO_LARGE = "throws.IllegalStateException";
    private static final int[][] PLACES = {{0, 0}, {0, 1}, {0, 2}, {0, 3}, {1, 0}, {1, 1}, {1, 2}, {2, 0}, {2, 1},
        {3, 0}};

    private OperationBoundaries() {
    }

    static void check() {
        roundedOnce();
        remainderOfProduct();
        within();
        onlyOtherThanZero();
        orderOfTerms();
        orderOfFactors();
        remainderLast();
        antiderivatives();
        lostTerms();
        remainderOfAntiderivative();
        othersAreZero();
        asTheyWere();
    }

    /** All of e is rounded, not each product in it. */
    private static void roundedOnce() {
        Check.sentence(TERMS, "let e be the sum of all products of a coefficient of A and one of B whose exponents add "
                + "up to i and j");
        ModelBoundaries.product("500 x1y0, 500 x0y1, 0 to 0", "1 x1y0, 1 x0y1, 0 to 0", "1 x1y1, 0 to 2");
        ModelBoundaries.product("999 x0y0, 1 x1y0, 0 to 0", "1 x1y0, 1 x0y0, 0 to 0", "1 x1y0, 0 to 2");
        ModelBoundaries.product("999 x0y0, 2 x1y0, 0 to 0", "1 x1y0, 1 x0y0, 0 to 0", "1 x1y0, -1 to 3");
        ModelBoundaries.product("7 x1y0, -7 x0y1, 0 to 0", "7000 x1y0, 7000 x0y1, 0 to 0", "-49 x0y2, 49 x2y0, 0 to 0");
        // x^2 y^2 from three products, 300 + 400 + 300; the x^3 y of the other one are 1 - 1.
        ModelBoundaries.product("300 x2y0, 400 x1y1, 300 x0y2, 0 to 0", "1000 x0y2, 1000 x1y1, 1000 x2y0, 0 to 0",
                "-1400 to 3000");
        ModelBoundaries.product("1000 x2y0, 1000 x1y1, 0 to 0", "1000 x2y0, -1000 x1y1, 0 to 0", "-1000 to 1000");
    }

    private static void remainderOfProduct() {
        Check.sentence(TERMS, "of the product of the spread of A and the remainder of B, of the product of the remainder "
                + "of A and the spread of B, and of the product of both remainders; its ends are divided by 1000, the "
                + "lower one rounded down, the upper one rounded up.");
        // What each of the three products and x^4 leave is added up first and rounded once.
        ModelBoundaries.product("500 x0y0, 0 to 0", "1 to 1", "0 to 1");
        ModelBoundaries.product("1 to 1", "500 x0y0, 0 to 0", "0 to 1");
        ModelBoundaries.product("1 to 1", "500 to 500", "0 to 1");
        ModelBoundaries.product("1 to 1", "500 x0y0, 500 to 500", "1 to 1");
        ModelBoundaries.product("1 x2y0, 1 to 1", "250 x2y0, 250 to 250", "0 to 1");
        ModelBoundaries.product("1 x2y0, 1 to 1", "251 x2y0, 250 to 250", "0 to 2");
        ModelBoundaries.product("1 x2y0, -1 to -1", "-250 x2y0, 250 to 250", "-1 to 1");
        ModelBoundaries.product("500 x2y0, 0 to 0", "1 x2y0, 0 to 0", "0 to 1");
        ModelBoundaries.product("-500 x2y0, 0 to 0", "1 x2y0, 0 to 0", "-1 to 0");
        ModelBoundaries.product("500 x2y0, 500 x1y1, 0 to 0", "1 x2y0, 0 to 0", "-1 to 1");
        ModelBoundaries.product("500 x2y0, 501 x1y1, 0 to 0", "1 x2y0, 0 to 0", "-1 to 2");
        ModelBoundaries.product("1000 x2y0, 1000 x1y1, 0 to 0", "1 x2y0, 0 to 0", "-1 to 2");
        spreadTimesRemainder("3000 x2y0", "1000 to 2000", "0 to 6000");
        spreadTimesRemainder("-3000 x2y0", "1000 to 2000", "-6000 to 0");
        spreadTimesRemainder("3000 x1y1", "1000 to 2000", "-6000 to 6000");
        spreadTimesRemainder("3000 x1y0", "-1000 to 2000", "-6000 to 6000");
        spreadTimesRemainder("1000 x0y0, 500 x0y2", "-2 to 4", "-3 to 6");
        spreadTimesRemainder("1000 x0y0, -500 x0y2", "-2 to 4", "-2 to 4");
        spreadTimesRemainder("-1000 x0y0, 500 x0y2", "-2 to 4", "-4 to 2");
        spreadTimesRemainder("-1000 x0y0, -500 x0y2", "-2 to 4", "-6 to 3");
        spreadTimesRemainder("1000 x0y0, 500 x0y2", "2 to 4", "2 to 6");
        spreadTimesRemainder("1000 x0y0, -500 x0y2", "2 to 4", "1 to 4");
        spreadTimesRemainder("-1000 x0y0, 500 x0y2", "2 to 4", "-4 to -1");
        spreadTimesRemainder("-1000 x0y0, -500 x0y2", "2 to 4", "-6 to -2");
        spreadTimesRemainder("1000 x0y0, 500 x2y0", "-4 to -2", "-6 to -2");
        spreadTimesRemainder("-1000 x0y0, 500 x2y0", "-4 to -2", "1 to 4");
        Check.sentence(TERMS, "(It is 0 to 0 at first; the remainders of A and B themselves are not in it.)");
        ModelBoundaries.product("-5 to 7", "0 to 0", "0 to 0");
        ModelBoundaries.product("0 to 0", "-5 to 7", "0 to 0");
        ModelBoundaries.product("0 to 0", "0 to 0", "0 to 0");
        ModelBoundaries.product("2000 x0y0, 0 to 0", "-5 to 7", "-10 to 14");
        ModelBoundaries.product("-5 to 7", "1000 x0y0, 0 to 0", "-5 to 7");
    }

    private static void spreadTimesRemainder(String polynomial, String remainder, String want) {
        ModelBoundaries.product(polynomial + ", 0 to 0", remainder, want);
        ModelBoundaries.product(remainder, polynomial + ", 0 to 0", want);
    }

    /** Models whose bound ends at a point of the square, and one thousandth further; by a polynomial, and with more. */
    private static void within() {
        Check.sentence(TERMS, "The composition P[A, B] of three models is possible if the bounds of A and of B are "
                + "within -1000 to 1000.");
        String[] inside = {"1000 x0y0, 0 to 0", "-1000 x0y0, 0 to 0", "1000 x1y0, 0 to 0", "-1000 x0y1, 0 to 0",
            "-1000 to 1000", "500 x0y0, 250 x1y1, -1250 to 250", "-1000 x0y0, 2000 x2y0, 0 to 0",
            "1000 x0y0, -2000 x0y2, 0 to 0", "5000 x0y0, -6000 to -4000", "-1001 x0y0, 1 to 2", "1001 x0y0, -2 to -1"};
        String[] outside = {"1001 x0y0, 0 to 0", "-1001 x0y0, 0 to 0", "1001 x1y0, 0 to 0", "-1001 x0y1, 0 to 0",
            "-1001 to 1000", "-1000 to 1001", "500 x0y0, 250 x1y1, -1250 to 251", "500 x0y0, 250 x1y1, -1251 to 250",
            "-1000 x0y0, 2001 x2y0, 0 to 0", "1000 x0y0, -2001 x0y2, 0 to 0", "-1001 x0y0, 0 to 1",
            "1001 x0y0, -1 to 0", "5000 x0y0, -6001 to -4000", "5000 x0y0, -6000 to -3999", "100000000 to 100000000"};
        for (String model : inside) {
            ModelBoundaries.composition("7 x0y0, -1 to 2", model, "0 to 0", "7 x0y0, -1 to 2");
            ModelBoundaries.composition("7 x0y0, -1 to 2", "0 to 0", model, "7 x0y0, -1 to 2");
            ModelBoundaries.composition("7 x0y0, -1 to 2", model, model, "7 x0y0, -1 to 2");
        }
        for (String model : outside) {
            ModelBoundaries.composition("7 x0y0, -1 to 2", model, "0 to 0", TOO_LARGE);
            ModelBoundaries.composition("7 x0y0, -1 to 2", "0 to 0", model, TOO_LARGE);
            ModelBoundaries.composition("0 to 0", model, "0 to 0", TOO_LARGE);
            ModelBoundaries.composition("0 to 0", "0 to 0", model, TOO_LARGE);
        }
        // The bound of P may be anywhere.
        ModelBoundaries.composition("1001 x0y0, 5000 x1y0, -70 to 70", "1000 x1y0, 0 to 0", "0 to 0",
                "1001 x0y0, 5000 x1y0, -70 to 70");
    }

    private static void onlyOtherThanZero() {
        Check.sentence(TERMS, "the result is the constant 0 at first");
        ModelBoundaries.composition("0 to 0", "500 x1y0, -5 to 5", "500 x0y1, -5 to 5", "0 to 0");
        Check.sentence(TERMS, "if the coefficient c of P for x^i y^j is not 0, the constant c is multiplied i times by A "
                + "and then j times by B, each time as the first one of the product, and the result is added to the sum "
                + "so far.");
        for (int[] place : PLACES) {
            String x = "1000 x1y0, 0 to 0";
            String y = "1000 x0y1, 0 to 0";
            for (int c : new int[] {-MOST, -1, 1, MOST}) {
                String outer = ModelBoundaries.term(c, place[0], place[1]) + "0 to 0";
                ModelBoundaries.composition(outer, x, y, outer);
                ModelBoundaries.composition(outer, y, x, ModelBoundaries.term(c, place[1], place[0]) + "0 to 0");
            }
        }
        // A remainder of A counts once for x, not at all where x is not.
        ModelBoundaries.composition("1000 x1y0, 0 to 0", "-5 to 7", "-900 to 900", "-5 to 7");
        ModelBoundaries.composition("1000 x0y1, 0 to 0", "-900 to 900", "-5 to 7", "-5 to 7");
        ModelBoundaries.composition("1000 x0y0, 0 to 0", "-900 to 900", "-5 to 7", "1000 x0y0, 0 to 0");
    }

    /** At A = B = 1 each term is its coefficient; 10^8, 1 and -1 fit only if the -1 comes before the 1. */
    private static void orderOfTerms() {
        Check.sentence(TERMS, "for each i from 0 to 3, and for each j from 0 to 3 - i (in this order)");
        for (int s = 0; s < PLACES.length; s++) {
            for (int t = s + 1; t < PLACES.length; t++) {
                for (int most = 0; most < PLACES.length; most++) {
                    if (most != s && most != t) {
                        boolean early = most < t;
                        sumOfTerms(most, s, -1, t, 1, true);
                        sumOfTerms(most, s, 1, t, -1, !early);
                    }
                }
            }
        }
    }

    private static void sumOfTerms(int most, int s, int first, int t, int second, boolean fits) {
        String[] terms = new String[PLACES.length];
        java.util.Arrays.fill(terms, "");
        terms[most] = ModelBoundaries.term(MOST, PLACES[most][0], PLACES[most][1]);
        terms[s] = ModelBoundaries.term(first, PLACES[s][0], PLACES[s][1]);
        terms[t] = ModelBoundaries.term(second, PLACES[t][0], PLACES[t][1]);
        ModelBoundaries.composition(String.join("", terms) + "0 to 0", "1000 x0y0, 0 to 0", "1000 x0y0, 0 to 0",
                fits ? "100000000 x0y0, 0 to 0" : TOO_LARGE);
    }

    /** 2 x^2 - 1 doubles a coefficient, and 0 makes it 0: the one that comes first decides. */
    private static void orderOfFactors() {
        Check.sentence(TERMS, "the constant c is multiplied i times by A and then j times by B");
        String twice = "-1000 x0y0, 2000 x2y0, 0 to 0";
        for (int[] place : new int[][] {{1, 1}, {1, 2}, {2, 1}}) {
            String outer = ModelBoundaries.term(50000001, place[0], place[1]) + "0 to 0";
            ModelBoundaries.composition(outer, twice, "0 to 0", TOO_LARGE);
            ModelBoundaries.composition(outer, "0 to 0", twice, "0 to 0");
        }
        // 0.999 is rounded at each product: 0.999, 0.998001, 0.997002 and so on, each down with a thousandth more.
        ModelBoundaries.composition("1000 x1y0, 0 to 0", "999 x0y0, 0 to 0", "0 to 0", "999 x0y0, 0 to 0");
        ModelBoundaries.composition("1000 x2y0, 0 to 0", "999 x0y0, 0 to 0", "0 to 0", "998 x0y0, 0 to 1");
        ModelBoundaries.composition("1000 x0y3, 0 to 0", "0 to 0", "999 x0y0, 0 to 0", "997 x0y0, 0 to 2");
        ModelBoundaries.composition("1000 x2y1, 0 to 0", "500 x0y0, 0 to 0", "1 x0y0, 0 to 0", "0 to 1");
    }

    private static void remainderLast() {
        Check.sentence(TERMS, "At last the remainder of P is added to the remainder.");
        ModelBoundaries.composition("1000 x1y0, -3 to 40", "-5 to 7", "0 to 0", "-8 to 47");
        ModelBoundaries.composition("-3 to 40", "-5 to 7", "0 to 0", "-3 to 40");
        ModelBoundaries.composition("-3 to -3", "0 to 0", "0 to 0", "-3 to -3");
        // Were it added first, the sum so far would be too large, or would not be.
        ModelBoundaries.composition("100000000 x1y0, 100000000 x0y1, 5 to 5", "-1000 to -1000", "1000 to 1000", "5 to 5");
        ModelBoundaries.composition("100000000 x0y1, 1 x0y2, -5 to -5", "0 to 0", "1000 to 1000", TOO_LARGE);
        ModelBoundaries.composition("100000000 x1y0, 1 to 1", "0 to 1000", "0 to 0", TOO_LARGE);
        ModelBoundaries.composition("100000000 x1y0, 0 to 0", "0 to 1000", "0 to 0", "0 to 100000000");
        ModelBoundaries.composition("100000000 x1y0, -1 to -1", "0 to 1000", "0 to 0", "-1 to 99999999");
        ModelBoundaries.composition("50000000 x1y0, -50000000 x0y0, 50000000 to 50000000", "0 to 1000", "0 to 0",
                "-50000000 x0y0, 50000000 to 100000000");
        ModelBoundaries.composition("50000000 x1y0, -50000000 x0y0, 50000001 to 50000001", "0 to 1000", "0 to 0",
                TOO_LARGE);
    }

    private static void antiderivatives() {
        Check.sentence(TERMS, "each coefficient c for x^i y^j becomes one for x^(i+1) y^j: c / (i + 1) rounded down, if "
                + "i + 1 + j <= 3; if this is not exact, the range of 1 times x^(i+1) y^j is added to the remainder.");
        for (int[] place : PLACES) {
            int i = place[0];
            int j = place[1];
            if (i + j <= 2) {
                for (int c = -7; c <= 7; c++) {
                    becomes(c, i, j, 0, i + 1, j, i + 1);
                    becomes(c, i, j, 1, i, j + 1, j + 1);
                }
                becomes(MOST, i, j, 0, i + 1, j, i + 1);
                becomes(-MOST, i, j, 1, i, j + 1, j + 1);
            }
        }
        ModelBoundaries.antiderivative("2 x1y0, -2 x0y1, 0 to 0", 0, "-2 x1y1, 1 x2y0, 0 to 0");
        ModelBoundaries.antiderivative("2 x2y0, -2 x0y2, 0 to 0", 1, "-1 x0y3, 2 x2y1, -1 to 1");
    }

    private static void becomes(int c, int i, int j, int variable, int i2, int j2, int divisor) {
        String rest = c % divisor == 0 ? "0 to 0" : ModelBoundaries.range(1, i2, j2);
        ModelBoundaries.antiderivative(ModelBoundaries.term(c, i, j) + "0 to 0", variable,
                ModelBoundaries.term(Math.floorDiv(c, divisor), i2, j2) + rest);
    }

    private static void lostTerms() {
        Check.sentence(TERMS, "If i + 1 + j is 4, the range of c times x^(i+1) y^j is taken, its ends are divided by i + "
                + "1, the lower one rounded down, the upper one rounded up, and this is added to the remainder.");
        String[] byX = {"03 1 -8 8", "12 2 0 4", "21 3 -3 3", "30 4 0 2"};
        for (String row : byX) {
            lost(row, 8, 0, false);
        }
        // By x, 9 x^2 y is just 3; 5 and 4 x^3 are 2 and 1; -5 and -4 x^3 are -2 and -1.
        ModelBoundaries.antiderivative("9 x2y1, 0 to 0", 0, "-3 to 3");
        ModelBoundaries.antiderivative("-9 x2y1, 0 to 0", 0, "-3 to 3");
        ModelBoundaries.antiderivative("7 x2y1, 0 to 0", 0, "-3 to 3");
        ModelBoundaries.antiderivative("6 x2y1, 0 to 0", 0, "-2 to 2");
        ModelBoundaries.antiderivative("4 x3y0, 0 to 0", 0, "0 to 1");
        ModelBoundaries.antiderivative("5 x3y0, 0 to 0", 0, "0 to 2");
        ModelBoundaries.antiderivative("-4 x3y0, 0 to 0", 0, "-1 to 0");
        ModelBoundaries.antiderivative("-5 x3y0, 0 to 0", 0, "-2 to 0");
        ModelBoundaries.antiderivative("3 x1y2, 0 to 0", 0, "0 to 2");
        ModelBoundaries.antiderivative("-3 x1y2, 0 to 0", 0, "-2 to 0");
        // Each range is rounded on its own: 1 / 4 and 1 / 2 are 2.
        ModelBoundaries.antiderivative("1 x3y0, 1 x1y2, -10 to 10", 0, "-10 to 12");
        Check.sentence(TERMS, "The antiderivative by y is computed likewise.");
        for (String row : byX) {
            lost(row, 8, 1, true);
        }
        ModelBoundaries.antiderivative("9 x1y2, 0 to 0", 1, "-3 to 3");
        ModelBoundaries.antiderivative("10 x1y2, 0 to 0", 1, "-4 to 4");
        ModelBoundaries.antiderivative("-5 x0y3, 0 to 0", 1, "-2 to 0");
        ModelBoundaries.antiderivative("-3 x2y1, 0 to 0", 1, "-2 to 0");
        ModelBoundaries.antiderivative("3 x2y1, 0 to 0", 1, "0 to 2");
    }

    /** A row is the exponents, what divides, and the range that is due; by y the exponents change places. */
    private static void lost(String row, int c, int variable, boolean turned) {
        String[] told = row.split(" ");
        int i = told[0].charAt(turned ? 1 : 0) - '0';
        int j = told[0].charAt(turned ? 0 : 1) - '0';
        ModelBoundaries.antiderivative(ModelBoundaries.term(c, i, j) + "0 to 0", variable, told[2] + " to " + told[3]);
    }

    private static void remainderOfAntiderivative() {
        Check.sentence(TERMS, "The remainder r to s of the model itself contributes -m to m, where m is the greater one "
                + "of |r| and |s|.");
        for (int variable = 0; variable <= 1; variable++) {
            ModelBoundaries.antiderivative("-5 to 5", variable, "-5 to 5");
            ModelBoundaries.antiderivative("-6 to 5", variable, "-6 to 6");
            ModelBoundaries.antiderivative("-5 to 6", variable, "-6 to 6");
            ModelBoundaries.antiderivative("5 to 6", variable, "-6 to 6");
            ModelBoundaries.antiderivative("-6 to -5", variable, "-6 to 6");
            ModelBoundaries.antiderivative("0 to 6", variable, "-6 to 6");
            ModelBoundaries.antiderivative("-6 to 0", variable, "-6 to 6");
            ModelBoundaries.antiderivative("0 to 0", variable, "0 to 0");
        }
    }

    private static void othersAreZero() {
        Check.sentence(TERMS, "All other coefficients are 0.");
        String all = "6 x0y0, 6 x0y1, 6 x0y2, 6 x0y3, 6 x1y0, 6 x1y1, 6 x1y2, 6 x2y0, 6 x2y1, 6 x3y0, 0 to 0";
        ModelBoundaries.antiderivative(all, 0, "6 x1y0, 6 x1y1, 6 x1y2, 3 x2y0, 3 x2y1, 2 x3y0, -8 to 13");
        ModelBoundaries.antiderivative(all, 1, "6 x0y1, 3 x0y2, 2 x0y3, 6 x1y1, 3 x1y2, 6 x2y1, -8 to 13");
        TaylorModels m = Check.holding(all);
        m.integrate(0, 0, 1);
        Check.due("in its own place", "6 x0y1, 3 x0y2, 2 x0y3, 6 x1y1, 3 x1y2, 6 x2y1, -8 to 13", Check.shown(m, 0));
    }

    private static void asTheyWere() {
        Check.sentence(TERMS, "X becomes X plus the product of the constant h and F[X, Y], and Y becomes Y plus the "
                + "product of the constant h and G[X, Y], both computed from X and Y as they were.");
        TaylorModels m = Check.holding("300 x0y0, 0 to 0", "100 x0y0, 0 to 0", "1000 x0y1, 0 to 0", "1000 x1y0, 0 to 0");
        Check.due("a step of 1", 1, m.step(1000, 1));
        Check.due("X is 300 + 100", "400 x0y0, 0 to 0", Check.shown(m, 0));
        Check.due("Y is 100 + 300, not 100 + 400", "400 x0y0, 0 to 0", Check.shown(m, 1));
        Check.due("a step of -1", 1, m.step(-1000, 1));
        Check.due("X is 400 - 400", "0 to 0", Check.shown(m, 0));
        Check.due("Y is 400 - 400, not 400 - 0", "0 to 0", Check.shown(m, 1));
        // X just inside before the step; with X as it becomes, G[X, Y] would not be possible.
        TaylorModels n = Check.holding("1000 x0y0, 0 to 0", "0 to 0", "1 x0y0, 0 to 0", "1000 x1y0, 0 to 0");
        Check.due("a step out of the square", 1, n.step(1000, 1));
        Check.due("X is outside", "1001 x0y0, 0 to 0", Check.shown(n, 0));
        Check.due("Y is X as it was", "1000 x0y0, 0 to 0", Check.shown(n, 1));
        Check.due("the next one is not possible", 0, n.step(1000, 1));
        // h * F is rounded after F[X, Y] is: 999 * 0.999 is 998 with 0 to 1, and 0.5 of it 499 with 0 to 1.
        TaylorModels o = Check.holding("999 x0y0, 0 to 0", "0 to 0", "999 x1y0, 0 to 0", "0 to 0");
        Check.due("a step of 1/2", 1, o.step(500, 1));
        Check.due("X then", "1498 x0y0, 0 to 1", Check.shown(o, 0));
    }
}
