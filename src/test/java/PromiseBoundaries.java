import java.math.BigInteger;

/** The sentences of promises 1 to 12 and 25 that name a boundary case, beside the exceptions. */
final class PromiseBoundaries {
    private static final int MOST = 100000000;
    private static final int SYNTAX = TaylorModels.SYNTAX_ERROR;
    private static final Class<IllegalArgumentException> ARGUMENT = IllegalArgumentException.class;

    private PromiseBoundaries() {
    }

    static void check() {
        newObject();
        bytesOfWords();
        fullBuffer();
        firstBytes();
        emptyAfterwards();
        dataAfterAnError();
        emptyText();
        numberOfModels();
        errorCodes();
        lengths();
        offsets();
        sets();
        endsOfRemainders();
        exactValues();
        rangesOfValue();
        degrees();
        covering();
        reasons();
        checksums();
    }

    private static void newObject() {
        Check.sentence("Promise 1: A new object", "Creates an object without defined models, with an empty input buffer.");
        TaylorModels m = new TaylorModels();
        Check.due("defined()", 0, m.defined());
        for (int k = 0; k < 8; k++) {
            int model = k;
            Check.dueThrows("degree(" + k + ")", java.util.NoSuchElementException.class, () -> m.degree(model));
        }
        Check.dueThrows("load(1)", ARGUMENT, () -> m.load(1));
        Check.due("load(0)", SYNTAX, m.load(0));
        Check.due("the first append", 20, new TaylorModels().append(0, 0, 0, 0, 0));
        Check.sentence("Terms", "Before the first successful load no model is defined.");
        Check.due("a load with an error", SYNTAX, Check.load(m, "models;a=1;b=2;?"));
        Check.due("defined() after it", 0, m.defined());
        Check.due("a load without", 2, Check.load(m, "models;a=1;b=2;"));
        Check.due("defined() after it", 3, m.defined());
    }

    /** Each byte value in each of the 20 places: a byte of 0 to 9 there makes a number, any other one an error. */
    private static void bytesOfWords() {
        Check.sentence("Promise 2: append", "Appends 20 bytes to the input buffer: the 4 bytes of each argument, the most "
                + "significant byte first.");
        for (int place = 0; place < 20; place++) {
            for (int b = 0; b <= 255; b++) {
                int[] w = {0x20202020, 0x20202020, 0x20202020, 0x20202020, 0x20202020};
                int shift = 24 - 8 * (place % 4);
                w[place / 4] = w[place / 4] & ~(255 << shift) | b << shift;
                TaylorModels m = new TaylorModels();
                m.append(0x6d6f6465, 0x6c733b61, 0x3d202020, 0x20202020, 0x20202020);
                Check.due("the second append", 40, m.append(w[0], w[1], w[2], w[3], w[4]));
                Check.due("the third append", 60, m.append(0x3b202020, 0x20202020, 0x20202020, 0x20202020, 0x20202020));
                boolean digit = b >= '0' && b <= '9';
                boolean variable = b == 'x' || b == 'y';
                int code = digit || variable ? 1 : b >= 'a' && b <= 'h' ? TaylorModels.UNDEFINED : SYNTAX;
                Check.due("load with byte " + b + " in place " + place, code, m.load(60));
                int offset = code == 1 ? -1 : b == ' ' || b == '(' ? 40 : 20 + place;
                Check.due("its offset", offset, m.errorOffset());
                if (digit) {
                    Check.due("the number", b - '0', m.coefficient(0, 0, 0));
                }
            }
        }
    }

    private static void fullBuffer() {
        Check.sentence("Promise 2: append", "Returns the new length of the buffer; -1 if it would exceed 700 bytes, and the "
                + "buffer is unchanged then.");
        Check.sentence("Terms", "The setup text is read from an input buffer of at most 700 bytes.");
        TaylorModels m = new TaylorModels();
        Check.due("append 1", 20, m.append(0x6d6f6465, 0x6c733b61, 0x3d202020, 0x20202020, 0x20202020));
        for (int length = 40; length <= 680; length += 20) {
            Check.due("append to " + length, length,
                    m.append(0x20202020, 0x20202020, 0x20202020, 0x20202020, 0x20202020));
        }
        Check.due("append to 700", 700, m.append(0x20202020, 0x20202020, 0x20202020, 0x20202020, 0x2020373b));
        for (int times = 1; times <= 3; times++) {
            Check.due("append beyond 700", -1, m.append(-1, -1, -1, -1, -1));
        }
        Check.dueThrows("load(701)", ARGUMENT, () -> m.load(701));
        Check.dueThrows("load(720)", ARGUMENT, () -> m.load(720));
        Check.due("load(700)", 1, m.load(700));
        Check.due("the last bytes are those of the append to 700", 7, m.coefficient(0, 0, 0));
        Check.due("append to the empty buffer", 20, m.append(0, 0, 0, 0, 0));
        fullOfTokens(";".repeat(700), 0);
        fullOfTokens("models;a=" + "(".repeat(4) + "+".repeat(687), 13);
        fullOfTokens("models;a=1" + "+1".repeat(345), 700);
        fullOfTokens("models;" + "a=1;".repeat(173) + "a", 700);
    }

    /** A text that fills the buffer, with an error. */
    private static void fullOfTokens(String text, int offset) {
        TaylorModels m = new TaylorModels();
        Check.due("load of " + text, SYNTAX, Check.load(m, text));
        Check.due("its offset", offset, m.errorOffset());
        Check.due("its length", 700, text.length());
    }

    private static void firstBytes() {
        Check.sentence("Promise 3: load", "Reads the first bytes of the input buffer as a setup text and replaces all data "
                + "by it.");
        TaylorModels m = Check.loaded("models;a=1;b=2;c=3;");
        Check.put(m, "models;d=4;e=5;?");
        Check.due("load(15)", 2, m.load(15));
        Check.due("only d and e are defined", 8 + 16, m.defined());
        Check.put(m, "models;d=4;e=5;?");
        Check.due("load(16)", SYNTAX, m.load(16));
        Check.put(m, "models;d=4;e=5;?");
        Check.due("load(11)", 1, m.load(11));
        Check.due("only d is defined", 8, m.defined());
        Check.put(m, "models;d=4;e=5;?");
        Check.due("load(7)", 0, m.load(7));
        Check.due("none is defined", 0, m.defined());
        Check.put(m, "models;d=123456;");
        Check.due("load of part of a number", SYNTAX, m.load(11));
        Check.put(m, "models;d=12;");
        Check.due("load of the whole", 1, m.load(12));
        Check.due("the number", 12, m.coefficient(3, 0, 0));
        firstBytesAlone("models;h=x*100000*100000*10000;a=h+x;");
        firstBytesAlone("models;a=x*12;b=a[intx(y),y]+inty(a)#34;c=models;");
    }

    /** What follows the first bytes in the buffer makes no difference, nor does it when it was read before. */
    private static void firstBytesAlone(String text) {
        for (int length = 0; length <= text.length(); length++) {
            TaylorModels used = new TaylorModels();
            Check.load(used, text);
            Check.put(used, text);
            TaylorModels fresh = new TaylorModels();
            Check.put(fresh, text.substring(0, length));
            Check.due("load(" + length + ") of " + text, fresh.load(length), used.load(length));
            Check.due("its offset", fresh.errorOffset(), used.errorOffset());
        }
    }

    private static void emptyAfterwards() {
        Check.sentence("Promise 3: load", "The input buffer is empty afterwards, also if the text has an error.");
        for (String text : new String[] {"models;a=1;", "models;a=b;", "?", "models;a=100001;"}) {
            for (int length = 0; length <= text.length(); length += text.length()) {
                TaylorModels m = new TaylorModels();
                Check.put(m, text);
                m.load(length);
                Check.dueThrows("load(1) after load(" + length + ") of " + text, ARGUMENT, () -> m.load(1));
                Check.due("append after it", 20, m.append(0x6d6f6465, 0x6c733b20, 0x20202020, 0x20202020, 0x20202020));
                Check.due("load of what was appended", 0, m.load(20));
            }
        }
    }

    private static void dataAfterAnError() {
        Check.sentence("Promise 3: load", "An error leaves all other data unchanged.");
        TaylorModels m = Check.loaded("models;a=1;b=x#3;");
        m.setCoefficient(0, 3, 0, 5);
        long before = m.checksum();
        for (String text : new String[] {"", "models;a=7;b=8;?", "models;c=c;", "models;a=2;a=100001;",
            "models;a=100000*100000*10001;", "models;b=y;b=(((((0)))));"}) {
            Check.due("whether " + text + " has an error", true, Check.load(m, text) < 0);
            Check.due("the models after " + text, before, m.checksum());
        }
        Check.due("undo() of setCoefficient", 1, m.undo());
        Check.due("the coefficient before", 0, m.coefficient(0, 3, 0));
        Check.due("undo() of load", 0, m.undo());
        Check.due("defined() before", 0, m.defined());
    }

    private static void emptyText() {
        Check.sentence("Promise 3: load", "An empty text has a SYNTAX_ERROR.");
        TaylorModels m = Check.loaded("models;a=1;");
        Check.due("load(0) of an empty buffer", SYNTAX, m.load(0));
        Check.due("its offset", 0, m.errorOffset());
        Check.put(m, "models;b=1;");
        Check.due("load(0) of a full one", SYNTAX, m.load(0));
        Check.due("its offset", 0, m.errorOffset());
        Check.due("the models stay", 1, m.defined());
        Check.due("load of the shortest text", 0, Check.load(m, "models;"));
    }

    private static void numberOfModels() {
        Check.sentence("Promise 3: load", "Returns the number of defined models; or the error code of the first error.");
        StringBuilder text = new StringBuilder("models;");
        for (int k = 0; k <= 8; k++) {
            TaylorModels m = new TaylorModels();
            Check.due(text.toString(), k, Check.load(m, text.toString()));
            Check.due("defined()", (1 << k) - 1, m.defined());
            Check.due(text + " twice", k, Check.load(m, text + text.substring(7)));
            text.append((char) ('a' + k)).append("=x;");
        }
        Check.due("the models that were defined before do not count", 1, Check.load(Check.loaded("models;a=1;b=1;"),
                "models;c=1;"));
    }

    private static void errorCodes() {
        String terms = "Terms";
        String huge = "models;a=100000*100000*10001;";
        Check.sentence(terms, "`SYNTAX_ERROR = -2`: Error code of load: the text does not follow the grammar.");
        Check.due("a text that does not follow the grammar", -2, Check.load(new TaylorModels(), "models;a=;"));
        Check.due("SYNTAX_ERROR", -2, TaylorModels.SYNTAX_ERROR);
        Check.sentence(terms, "`OUT_OF_RANGE = -3`: Error code of load: a number is not allowed.");
        Check.due("a number that is not allowed", -3, Check.load(new TaylorModels(), "models;a=100001;"));
        Check.due("OUT_OF_RANGE", -3, TaylorModels.OUT_OF_RANGE);
        Check.sentence(terms, "`UNDEFINED = -4`: Error code of load: a model is not defined.");
        Check.due("a model that is not defined", -4, Check.load(new TaylorModels(), "models;a=b;"));
        Check.due("UNDEFINED", -4, TaylorModels.UNDEFINED);
        Check.sentence(terms, "`REFUSED = -5`: Error code of load: something is too large, or a composition is not "
                + "possible.");
        Check.due("something too large", -5, Check.load(new TaylorModels(), huge));
        Check.due("a composition that is not possible", -5, Check.load(new TaylorModels(), "models;a=x;b=a[1001,0];"));
        Check.due("REFUSED", -5, TaylorModels.REFUSED);
        Check.sentence(terms, "`TOO_DEEP = -6`: Error code of load: parentheses and brackets are nested too deeply.");
        Check.due("parentheses nested too deeply", -6, Check.load(new TaylorModels(), "models;a=(((((0)))));"));
        Check.due("TOO_DEEP", -6, TaylorModels.TOO_DEEP);
    }

    private static void lengths() {
        Check.sentence("Promise 3: load", "Throws `IllegalArgumentException` if length is negative or greater than the "
                + "length of the buffer; the buffer is unchanged then");
        for (int words = 0; words <= 35; words++) {
            TaylorModels m = new TaylorModels();
            for (int k = 0; k < words; k++) {
                m.append(0x6d6f6465, 0x6c733b20, 0x20202020, 0x20202020, 0x20202020);
            }
            int full = 20 * words;
            for (int length : new int[] {-1, full + 1, full + 20, Integer.MIN_VALUE, Integer.MAX_VALUE}) {
                Check.dueThrows("load(" + length + ") of " + full, ARGUMENT, () -> m.load(length));
            }
            Check.due("the next append", words == 35 ? -1 : full + 20, m.append(0x20202020, 0, 0, 0, 0));
            Check.due("load(" + full + ")", words == 1 ? 0 : SYNTAX, m.load(full));
            Check.due("its offset", words == 0 ? 0 : words == 1 ? -1 : 20, m.errorOffset());
        }
    }

    private static void offsets() {
        Check.sentence("Promise 4: errorOffset", "Returns the offset of the error found by the latest call of load that did "
                + "not throw; -1 if it found none or if there was no such call.");
        TaylorModels m = new TaylorModels();
        Check.due("errorOffset() at first", -1, m.errorOffset());
        Check.dueThrows("load(1)", ARGUMENT, () -> m.load(1));
        Check.due("errorOffset() after a load that threw", -1, m.errorOffset());
        Check.load(m, "?");
        Check.due("errorOffset() of an error at 0", 0, m.errorOffset());
        Check.load(m, "models;a=x;?");
        Check.due("errorOffset() of an error at 11", 11, m.errorOffset());
        Check.dueThrows("load(1)", ARGUMENT, () -> m.load(1));
        Check.due("errorOffset() after a load that threw", 11, m.errorOffset());
        Check.load(m, "models;a=x;");
        Check.due("errorOffset() after a load without error", -1, m.errorOffset());
        Check.dueThrows("load(-1)", ARGUMENT, () -> m.load(-1));
        Check.due("errorOffset() after a load that threw", -1, m.errorOffset());
        Check.put(m, "models;" + " ".repeat(692) + "?");
        m.load(700);
        Check.due("errorOffset() of the last byte", 699, m.errorOffset());
        Check.put(m, "models" + " ".repeat(694));
        m.load(700);
        Check.due("errorOffset() of the end of the longest text", 700, m.errorOffset());
    }

    private static void sets() {
        Check.sentence("Promise 5: defined", "Returns the set of the defined models: bit k stands for model k.");
        for (int set = 0; set < 256; set++) {
            StringBuilder text = new StringBuilder("models;");
            for (int k = 7; k >= 0; k--) {
                text.append((set >> k & 1) == 0 ? "" : (char) ('a' + k) + "=1;");
            }
            TaylorModels m = new TaylorModels();
            Check.due(text.toString(), Integer.bitCount(set), Check.load(m, text.toString()));
            Check.due("defined()", set, m.defined());
            for (int k = 0; k < 8; k++) {
                int model = k;
                Check.due("degree(" + k + ")", (set >> k & 1) == 1 ? "0" : "throws.NoSuchElementException",
                        Check.outcome(() -> m.degree(model)));
            }
        }
    }

    private static void endsOfRemainders() {
        TaylorModels m = Check.holding("5 x0y0, 7 x1y0, -100000000 to 100000000", "5 x0y0, 7 x1y0, -3 to -3");
        Check.sentence("Promise 7: remainder", "Returns the lower (0) or the upper end (1) of its remainder.");
        Check.due("remainder(0, 0)", -MOST, m.remainder(0, 0));
        Check.due("remainder(0, 1)", MOST, m.remainder(0, 1));
        Check.due("remainder(1, 0)", -3, m.remainder(1, 0));
        Check.due("remainder(1, 1)", -3, m.remainder(1, 1));
        Check.sentence("Promise 8: bound", "Returns the lower (0) or the upper end (1) of its bound.");
        Check.due("bound(0, 0)", -MOST - 2, m.bound(0, 0));
        Check.due("bound(0, 1)", MOST + 12, m.bound(0, 1));
        Check.due("bound(1, 0)", -5, m.bound(1, 0));
        Check.due("bound(1, 1)", 9, m.bound(1, 1));
        for (int which : new int[] {-1, 2, Integer.MIN_VALUE, Integer.MAX_VALUE}) {
            Check.sentence("Promise 7: remainder", "- `which`: 0 or 1");
            Check.dueThrows("remainder(0, " + which + ")", ARGUMENT, () -> m.remainder(0, which));
            Check.sentence("Promise 8: bound", "- `which`: 0 or 1");
            Check.dueThrows("bound(0, " + which + ")", ARGUMENT, () -> m.bound(0, which));
        }
    }

    private static void exactValues() {
        Check.sentence("Promise 9: value", "Encloses the value at a point: the exact value of the polynomial there, rounded "
                + "down (or up), plus the lower (or upper) end of the remainder.");
        // Each half is no integer, but the sum is: it is not rounded term by term.
        value("1 x1y0, 1 x0y1, 0 to 0", 500, 500, 1, 1);
        value("1 x1y0, 1 x0y1, 0 to 0", 500, -500, 0, 0);
        value("1 x1y0, 1 x0y1, 0 to 0", 500, 499, 0, 1);
        value("1 x1y0, 1 x0y1, 0 to 0", 500, 501, 1, 2);
        value("1 x1y0, 1 x0y1, 0 to 0", -500, -501, -2, -1);
        value("1 x3y0, 0 to 0", 1, 0, 0, 1);
        value("1 x3y0, 0 to 0", -1, 0, -1, 0);
        value("1 x1y2, 0 to 0", -1, -1, -1, 0);
        value("1 x2y1, 0 to 0", -1, 1, 0, 1);
        value("1000 x0y0, 1 x3y0, 0 to 0", 0, 1000, 1000, 1000);
        value("1000 x0y0, 1 x3y0, 0 to 0", 1000, 0, 1001, 1001);
        value("1000 x0y0, 1 x3y0, 0 to 0", -1000, 0, 999, 999);
        value("8 x3y0, 4 x2y0, 2 x1y0, 0 to 0", 500, 0, 3, 3);
        value("8 x3y0, 4 x2y0, 2 x1y0, 0 to 0", -500, 0, -1, -1);
        value("8 x1y2, 8 x2y1, 4 x1y1, 8 x0y3, 4 x0y2, 2 x0y1, 0 to 0", 500, -500, -2, -2);
        value("100000000 x0y0, 100000000 x1y0, 100000000 x0y1, 0 to 0", 1000, 1000, 3 * MOST, 3 * MOST);
        value("1 x0y0, -5 to 7", 1000, 1000, -4, 8);
        value("1 x1y0, -5 to 7", 1, 0, -5, 8);
        value("-1 x1y0, -5 to 7", 1, 0, -6, 7);
        value("3 to 3", -1000, 1000, 3, 3);
    }

    private static void rangesOfValue() {
        String heading = "Promise 9: value";
        TaylorModels m = Check.holding("3 x1y0, 5 x0y1, -100 to 100");
        Check.sentence(heading, "- `x`: -1000 to 1000");
        Check.due("value at x = -1", -103, m.value(0, -1000, 0, 0));
        Check.due("value at x = 1", 103, m.value(0, 1000, 0, 1));
        Check.dueThrows("value at x = -1.001", ARGUMENT, () -> m.value(0, -1001, 0, 0));
        Check.dueThrows("value at x = 1.001", ARGUMENT, () -> m.value(0, 1001, 0, 1));
        Check.sentence(heading, "- `y`: -1000 to 1000");
        Check.due("value at y = -1", -105, m.value(0, 0, -1000, 0));
        Check.due("value at y = 1", 105, m.value(0, 0, 1000, 1));
        Check.dueThrows("value at y = -1.001", ARGUMENT, () -> m.value(0, 0, -1001, 0));
        Check.dueThrows("value at y = 1.001", ARGUMENT, () -> m.value(0, 0, 1001, 1));
        Check.sentence(heading, "- `which`: 0 for the lower end, 1 for the upper end");
        Check.due("value, the lower end", -100, m.value(0, 0, 0, 0));
        Check.due("value, the upper end", 100, m.value(0, 0, 0, 1));
        Check.dueThrows("value, end -1", ARGUMENT, () -> m.value(0, 0, 0, -1));
        Check.dueThrows("value, end 2", ARGUMENT, () -> m.value(0, 0, 0, 2));
    }

    private static void value(String model, int x, int y, int low, int high) {
        TaylorModels m = Check.holding(model);
        Check.due(model + " at " + x + ", " + y + ", down", low, m.value(0, x, y, 0));
        Check.due(model + " at " + x + ", " + y + ", up", high, m.value(0, x, y, 1));
    }

    private static void degrees() {
        Check.sentence("Promise 10: degree", "Returns the greatest i + j of its coefficients that are not 0; -1 if all are "
                + "0.");
        for (int i = 0; i <= 3; i++) {
            for (int j = 0; i + j <= 3; j++) {
                for (int c : new int[] {-MOST, -1, 0, 1, MOST}) {
                    TaylorModels m = Check.holding(ModelBoundaries.term(c, i, j) + "0 to 0");
                    Check.due("degree of " + c + " x" + i + "y" + j, c == 0 ? -1 : i + j, m.degree(0));
                    m.setCoefficient(0, 0, 0, 1);
                    int with = c == 0 || i + j == 0 ? 0 : i + j;
                    Check.due("and with a constant", with, m.degree(0));
                }
            }
        }
        Check.due("degree of a remainder alone", -1, Check.holding("-5 to 7").degree(0));
        Check.due("degree of x and x^2", 2, Check.holding("5 x1y0, 1 x2y0, 0 to 0").degree(0));
        Check.due("degree of x^2 and y", 2, Check.holding("5 x0y1, 1 x2y0, 0 to 0").degree(0));
        Check.due("degree of y^3 and x^2", 3, Check.holding("5 x0y3, 1 x2y0, 0 to 0").degree(0));
    }

    private static void covering() {
        Check.sentence("Promise 11: covers", "Tells whether the first model covers the second one: whether the spread of the "
                + "polynomial of the second one minus that of the first one, plus the remainder of the second one, is "
                + "within the remainder of the first one.");
        covers("0 to 0", "0 to 0", true);
        covers("-5 to 7", "-5 to 7", true);
        covers("-5 to 7", "-6 to 7", false);
        covers("-5 to 7", "-5 to 8", false);
        covers("-5 to 7", "-4 to 6", true);
        covers("1 to 1", "0 to 0", false);
        covers("-1 to -1", "0 to 0", false);
        covers("3 x0y0, -5 to 7", "10 x0y0, 0 to 0", true);
        covers("3 x0y0, -5 to 7", "11 x0y0, 0 to 0", false);
        covers("3 x0y0, -5 to 7", "-2 x0y0, 0 to 0", true);
        covers("3 x0y0, -5 to 7", "-3 x0y0, 0 to 0", false);
        covers("3 x0y0, -5 to 7", "8 x0y0, -10 to 2", true);
        covers("3 x0y0, -5 to 7", "8 x0y0, -11 to 2", false);
        covers("3 x0y0, -5 to 7", "8 x0y0, -10 to 3", false);
        for (int i = 0; i <= 3; i++) {
            for (int j = 0; i + j <= 3; j++) {
                for (int n : new int[] {-7, 7}) {
                    coversTerm(n, i, j);
                }
            }
        }
        covers("-100000000 x1y0, -100000000 to 100000000", "100000000 x1y0, 0 to 0", false);
        covers("50000000 x1y0, -100000000 to 100000000", "-50000000 x1y0, 0 to 0", true);
        covers("50000000 x1y0, -100000000 to 100000000", "-50000001 x1y0, 0 to 0", false);
        covers("5 x1y0, 5 x0y1, -10 to 10", "0 to 0", true);
        covers("5 x1y0, 5 x0y1, -9 to 10", "0 to 0", false);
        covers("5 x1y0, 5 x0y1, -10 to 9", "0 to 0", false);
    }

    /** The difference is n times x^i y^j: its range is covered, but not by an end that is one short of it. */
    private static void coversTerm(int n, int i, int j) {
        String[] range = ModelBoundaries.range(n, i, j).split(" to ");
        int low = Integer.parseInt(range[0]);
        int high = Integer.parseInt(range[1]);
        String term = ModelBoundaries.term(4 + n, i, j) + "0 to 0";
        covers(ModelBoundaries.term(4, i, j) + low + " to " + high, term, true);
        if (low < high) {
            covers(ModelBoundaries.term(4, i, j) + (low + 1) + " to " + high, term, false);
            covers(ModelBoundaries.term(4, i, j) + low + " to " + (high - 1), term, false);
        } else {
            covers(ModelBoundaries.term(4, i, j) + (low + 1) + " to " + (high + 1), term, false);
            covers(ModelBoundaries.term(4, i, j) + (low - 1) + " to " + (high - 1), term, false);
        }
    }

    private static void covers(String first, String second, boolean want) {
        Check.due("whether " + first + " covers " + second, want, Check.holding(first, second).covers(0, 1));
    }

    private static void reasons() {
        Check.sentence("Promise 12: reason", "Returns 0 if it is not refused; 1 if the bound of the first one is not within "
                + "-1000 to 1000; otherwise 2 if that of the second one is not; otherwise 3 if something would be too "
                + "large.");
        String most = "100000000 x1y0, 1 x0y1, 0 to 0";
        String[] models = {"1000 x0y0, 0 to 0", "-1000 to 1000", "1001 x0y0, 0 to 0", "-1001 x0y0, 0 to 0",
            "-1000 to 1001", "-1001 to 1000", "1001 x0y1, 0 to 0"};
        for (int a = 0; a < models.length; a++) {
            for (int b = 0; b < models.length; b++) {
                int otherwise = a >= 2 ? 1 : b >= 2 ? 2 : 0;
                reason("0 to 0", models[a], models[b], otherwise);
                reason(most, models[a], models[b], otherwise == 0 ? a == b ? 3 : 0 : otherwise);
            }
        }
        reason("100000000 x0y0, 0 to 0", "0 to 0", "0 to 0", 0);
        reason("100000000 x0y0, 100000000 to 100000000", "0 to 0", "0 to 0", 0);
        reason("100000000 x0y0, 1 x1y0, 0 to 0", "1000 x0y0, 0 to 0", "0 to 0", 3);
        reason("100000000 x0y0, 1 x1y0, 0 to 0", "999 x0y0, 0 to 0", "0 to 0", 0);
        reason("1000 x1y0, 100000000 to 100000000", "0 to 1", "0 to 0", 3);
        reason("1000 x1y0, 99999999 to 99999999", "0 to 1", "0 to 0", 0);
        reason("1000 x1y0, -100000000 to 0", "-1 to 0", "0 to 0", 3);
        reason("1000 x1y0, -99999999 to 0", "-1 to 0", "0 to 0", 0);
        Check.sentence("Promise 12: reason", "Tells why outer[first, second] is refused.");
        TaylorModels m = Check.holding("7 x1y0, 0 to 0", "1000 x0y1, 0 to 0");
        int left = m.undo();
        Check.due("reason(0, 1, 1)", 0, m.reason(0, 1, 1));
        Check.due("reason is no change", left - 1, m.undo());
    }

    /** The reason is 0 where compose is not refused, and only there. */
    private static void reason(String outer, String first, String second, int want) {
        TaylorModels m = Check.holding(outer, first, second);
        String call = "(" + outer + ")[" + first + "; " + second + "]";
        long before = m.checksum();
        Check.due("reason of " + call, want, m.reason(0, 1, 2));
        Check.due("the models after it", before, m.checksum());
        Check.due("whether compose refuses " + call, want != 0,
                Check.outcome(() -> m.compose(3, 0, 1, 2)).equals("throws.IllegalStateException"));
    }

    private static void checksums() {
        String heading = "Promise 25: checksum";
        Check.sentence(heading, "It starts at 0; each number n in the following order replaces it by 31 * checksum + n, "
                + "wrapping around on overflow of a long:");
        Check.due("checksum() of none", 0, new TaylorModels().checksum());
        Check.due("checksum() of models;", 0, Check.loaded("models;").checksum());
        String[] all = new String[8];
        for (int defined = 1; defined < 256; defined++) {
            for (int k = 0; k < 8; k++) {
                all[k] = (defined >> k & 1) == 0 ? null : (k + 1) + " x0y0, -7 x0y3, 100000000 x1y0, -100000000 x2y1, "
                        + k + " x3y0, " + -k + " to " + 2 * k;
            }
            TaylorModels m = Check.holding(all);
            Check.due("checksum() of " + defined, sumOf(m, defined), m.checksum());
        }
        Check.sentence(heading, "defined(); for each defined model, by ascending indexes, its coefficients for i from 0 to 3 "
                + "and j from 0 to 3 - i (in this order), then the lower and the upper end of its remainder.");
        TaylorModels m = Check.holding("1 x0y0, 2 x0y1, 3 x0y2, 4 x0y3, 5 x1y0, 6 x1y1, 7 x1y2, 8 x2y0, 9 x2y1, 10 x3y0, "
                + "11 to 12");
        BigInteger want = BigInteger.ONE;
        for (int n = 1; n <= 12; n++) {
            want = want.multiply(BigInteger.valueOf(31)).add(BigInteger.valueOf(n));
        }
        Check.due("checksum() of 1 to 12", want.longValue(), m.checksum());
        m.clear(0);
        Check.due("checksum() of none that is left", 0, m.checksum());
    }

    /** In numbers of any length, cut to a long at the end alone. */
    private static long sumOf(TaylorModels m, int defined) {
        BigInteger sum = BigInteger.valueOf(defined);
        for (int k = 0; k < 8; k++) {
            if ((defined >> k & 1) == 1) {
                for (int i = 0; i <= 3; i++) {
                    for (int j = 0; j <= 3 - i; j++) {
                        sum = sum.multiply(BigInteger.valueOf(31)).add(BigInteger.valueOf(m.coefficient(k, i, j)));
                    }
                }
                for (int which = 0; which <= 1; which++) {
                    sum = sum.multiply(BigInteger.valueOf(31)).add(BigInteger.valueOf(m.remainder(k, which)));
                }
            }
        }
        return sum.longValue();
    }
}
