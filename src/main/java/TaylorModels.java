import java.util.Arrays;
import java.util.NoSuchElementException;

/** Taylor models of two variables, as ../shared/DOC.md promises them. */
public final class TaylorModels {
    public static final int SYNTAX_ERROR = -2;
    public static final int OUT_OF_RANGE = -3;
    public static final int UNDEFINED = -4;
    public static final int REFUSED = -5;
    public static final int TOO_DEEP = -6;

    private static final int MODELS = 8;
    private static final int BUFFER_BYTES = 700;
    private static final int UNDO_STEPS = 8;
    private static final int MOST_STEPS = 20;
    private static final int HIGHEST_DEGREE = 3;
    private static final long ONE = 1000L;
    private static final long LARGEST = 100000000L;
    private static final long BILLION = 1000000000L;

    /** A polynomial's coefficients stand in slots, in the order of the checksum: i from 0 to 3, j from 0 to 3 - i. */
    private static final int SLOTS = 10;
    private static final int CONSTANT_SLOT = 0;
    private static final int Y_SLOT = 1;
    private static final int X_SLOT = 4;
    private static final int[] X_POWER = {0, 0, 0, 0, 1, 1, 1, 2, 2, 3};
    private static final int[] Y_POWER = {0, 1, 2, 3, 0, 1, 2, 0, 1, 0};
    private static final int[] FIRST_SLOT_OF_X_POWER = {0, 4, 7, 9};
    /** The smallest value of each slot's x^i y^j on the square, as lowestOf tells it. */
    private static final int[] LOWEST = {1, -1, 0, -1, -1, -1, -1, 0, -1, -1};

    private final Models models = new Models();
    private final History history = new History();
    private final Arithmetic arithmetic = new Arithmetic();
    private final SetupReader reader = new SetupReader();
    private final Model result = new Model();
    private int errorStart = -1;

    public TaylorModels() {
    }

    public int append(int w0, int w1, int w2, int w3, int w4) {
        SetupText text = reader.text;
        if (text.filled > BUFFER_BYTES - 20) {
            return -1;
        }
        text.putWord(w0);
        text.putWord(w1);
        text.putWord(w2);
        text.putWord(w3);
        text.putWord(w4);
        return text.filled;
    }

    public int load(int length) throws IllegalArgumentException {
        if (length < 0 || length > reader.text.filled) {
            throw new IllegalArgumentException("length is not within the buffer");
        }
        boolean read = reader.readSetup(length);
        reader.text.filled = 0;
        if (!read) {
            errorStart = reader.text.start;
            return reader.error;
        }
        errorStart = -1;
        history.remember(models);
        models.copyFrom(reader.draft);
        return models.count();
    }

    public int errorOffset() {
        return errorStart;
    }

    public int defined() {
        return models.mask;
    }

    public int coefficient(int model, int i, int j)
            throws IndexOutOfBoundsException, NoSuchElementException, IllegalArgumentException {
        requireIndex(model);
        Model m = requireDefined(model);
        return (int) m.coefficientAt(requireSlot(i, j));
    }

    public int remainder(int model, int which)
            throws IndexOutOfBoundsException, NoSuchElementException, IllegalArgumentException {
        requireIndex(model);
        Model m = requireDefined(model);
        requireZeroOrOne(which);
        return (int) (which == 0 ? m.low : m.high);
    }

    public int bound(int model, int which)
            throws IndexOutOfBoundsException, NoSuchElementException, IllegalArgumentException {
        requireIndex(model);
        Model m = requireDefined(model);
        requireZeroOrOne(which);
        return (int) (which == 0 ? m.boundLow() : m.boundHigh());
    }

    public int value(int model, int x, int y, int which)
            throws IndexOutOfBoundsException, NoSuchElementException, IllegalArgumentException {
        requireIndex(model);
        Model m = requireDefined(model);
        requireBetween(x, -ONE, ONE);
        requireBetween(y, -ONE, ONE);
        requireZeroOrOne(which);
        long exact = m.valueInBillionths(x, y);
        return (int) (which == 0 ? m.low + Math.floorDiv(exact, BILLION) : m.high - Math.floorDiv(-exact, BILLION));
    }

    public int degree(int model) throws IndexOutOfBoundsException, NoSuchElementException {
        requireIndex(model);
        return requireDefined(model).highestDegree();
    }

    public boolean covers(int first, int second) throws IndexOutOfBoundsException, NoSuchElementException {
        requireIndex(first);
        requireIndex(second);
        Model outer = requireDefined(first);
        Model inner = requireDefined(second);
        return outer.contains(inner);
    }

    public int reason(int outer, int first, int second) throws IndexOutOfBoundsException, NoSuchElementException {
        requireIndex(outer);
        requireIndex(first);
        requireIndex(second);
        Model p = requireDefined(outer);
        Model a = requireDefined(first);
        Model b = requireDefined(second);
        if (!a.staysInSquare()) {
            return 1;
        }
        if (!b.staysInSquare()) {
            return 2;
        }
        return arithmetic.composeModels(result, p, a, b) ? 0 : 3;
    }

    public int add(int target, int first, int second)
            throws IndexOutOfBoundsException, NoSuchElementException, IllegalStateException {
        requireIndex(target);
        requireIndex(first);
        requireIndex(second);
        Model a = requireDefined(first);
        Model b = requireDefined(second);
        return settle(target, arithmetic.addModels(result, a, b));
    }

    public int subtract(int target, int first, int second)
            throws IndexOutOfBoundsException, NoSuchElementException, IllegalStateException {
        requireIndex(target);
        requireIndex(first);
        requireIndex(second);
        Model a = requireDefined(first);
        Model b = requireDefined(second);
        return settle(target, arithmetic.subtractModels(result, a, b));
    }

    public int multiply(int target, int first, int second)
            throws IndexOutOfBoundsException, NoSuchElementException, IllegalStateException {
        requireIndex(target);
        requireIndex(first);
        requireIndex(second);
        Model a = requireDefined(first);
        Model b = requireDefined(second);
        return settle(target, arithmetic.multiplyModels(result, a, b));
    }

    public int compose(int target, int outer, int first, int second)
            throws IndexOutOfBoundsException, NoSuchElementException, IllegalStateException {
        requireIndex(target);
        requireIndex(outer);
        requireIndex(first);
        requireIndex(second);
        Model p = requireDefined(outer);
        Model a = requireDefined(first);
        Model b = requireDefined(second);
        return settle(target, arithmetic.composeModels(result, p, a, b));
    }

    public int integrate(int target, int model, int variable)
            throws IndexOutOfBoundsException, NoSuchElementException, IllegalArgumentException, IllegalStateException {
        requireIndex(target);
        requireIndex(model);
        Model m = requireDefined(model);
        requireZeroOrOne(variable);
        return settle(target, arithmetic.integrateModel(result, m, variable));
    }

    public int step(int h, int most) throws NoSuchElementException, IllegalArgumentException {
        Model x = requireDefined(0);
        Model y = requireDefined(1);
        Model f = requireDefined(2);
        Model g = requireDefined(3);
        requireBetween(h, -ONE, ONE);
        requireBetween(most, 1, MOST_STEPS);
        history.remember(models);
        int made = 0;
        while (made < most && arithmetic.moveModels(x, y, f, g, h)) {
            made++;
        }
        return made;
    }

    public int sweep(int target, int limit)
            throws IndexOutOfBoundsException, NoSuchElementException, IllegalArgumentException, IllegalStateException {
        requireIndex(target);
        result.copyFrom(requireDefined(target));
        requireBetween(limit, 0, LARGEST);
        int swept = result.sweepUpTo(limit);
        settle(target, result.fits());
        return swept;
    }

    public int wrap(int target, int variable)
            throws IndexOutOfBoundsException, NoSuchElementException, IllegalArgumentException, IllegalStateException {
        requireIndex(target);
        Model m = requireDefined(target);
        requireZeroOrOne(variable);
        long high = m.boundHigh();
        long middle = Math.floorDiv(m.boundLow() + high, 2L);
        result.becomeConstant(middle);
        result.setCoefficientAt(variable == 0 ? X_SLOT : Y_SLOT, high - middle);
        settle(target, result.fits());
        return (int) (high - middle);
    }

    public int setCoefficient(int target, int i, int j, int value)
            throws IndexOutOfBoundsException, NoSuchElementException, IllegalArgumentException {
        requireIndex(target);
        Model m = requireDefined(target);
        int slot = requireSlot(i, j);
        requireBetween(value, -LARGEST, LARGEST);
        history.remember(models);
        int previous = (int) m.coefficientAt(slot);
        m.setCoefficientAt(slot, value);
        return previous;
    }

    public int setRemainder(int target, int low, int high)
            throws IndexOutOfBoundsException, NoSuchElementException, IllegalArgumentException {
        requireIndex(target);
        Model m = requireDefined(target);
        requireBetween(low, -LARGEST, LARGEST);
        requireBetween(high, low, LARGEST);
        history.remember(models);
        int previous = m.width();
        m.low = low;
        m.high = high;
        return previous;
    }

    public boolean clear(int target) throws IndexOutOfBoundsException {
        requireIndex(target);
        history.remember(models);
        boolean was = models.has(target);
        models.remove(target);
        return was;
    }

    public int undo() {
        return history.restore(models) ? history.count : -1;
    }

    public long checksum() {
        long sum = models.mask;
        for (int k = 0; k < MODELS; k++) {
            if (models.has(k)) {
                sum = models.rows[k].addToChecksum(sum);
            }
        }
        return sum;
    }

    private static void requireIndex(int model) {
        if (model < 0 || model >= MODELS) {
            throw new IndexOutOfBoundsException("there is no such model");
        }
    }

    private Model requireDefined(int model) {
        if (!models.has(model)) {
            throw new NoSuchElementException("the model is not defined");
        }
        return models.rows[model];
    }

    private static int requireSlot(int i, int j) {
        int slot = slotOf(i, j);
        if (slot < 0) {
            throw new IllegalArgumentException("there is no such coefficient");
        }
        return slot;
    }

    private static void requireZeroOrOne(int n) {
        if (n != 0 && n != 1) {
            throw new IllegalArgumentException("neither 0 nor 1");
        }
    }

    private static void requireBetween(long n, long least, long most) {
        if (n < least || n > most) {
            throw new IllegalArgumentException("a number is out of its range");
        }
    }

    /** Every change of one model by an operation ends here, so that a refused one has changed nothing yet. */
    private int settle(int target, boolean fits) {
        if (!fits) {
            throw new IllegalStateException("something is too large, or the composition is not possible");
        }
        history.remember(models);
        models.define(target, result);
        return result.width();
    }

    /** The slot of x^i y^j, or -1 if a model has none; i and j are compared first as their sum may overflow. */
    private static int slotOf(int i, int j) {
        if (i < 0 || j < 0 || i > HIGHEST_DEGREE || j > HIGHEST_DEGREE - i) {
            return -1;
        }
        return FIRST_SLOT_OF_X_POWER[i] + j;
    }

    /** The smallest value of x^i y^j on the square; the greatest one is always 1. */
    private static int lowestOf(int i, int j) {
        if (i == 0 && j == 0) {
            return 1;
        }
        return (i & 1) == 0 && (j & 1) == 0 ? 0 : -1;
    }

    /** The lower end of the range of n times an x^i y^j that goes from lowest to 1. */
    private static long rangeLow(long n, int lowest) {
        return Math.min(n * lowest, n);
    }

    private static long rangeHigh(long n, int lowest) {
        return Math.max(n * lowest, n);
    }

    /** A polynomial and its remainder, from low to high. */
    private static final class Model {
        final long[] coefficients = new long[SLOTS];
        long low;
        long high;

        void becomeConstant(long n) {
            Arrays.fill(coefficients, 0L);
            coefficients[CONSTANT_SLOT] = n;
            low = 0L;
            high = 0L;
        }

        void becomeVariable(int slot) {
            becomeConstant(0L);
            setCoefficientAt(slot, ONE);
        }

        void copyFrom(Model other) {
            System.arraycopy(other.coefficients, 0, coefficients, 0, SLOTS);
            low = other.low;
            high = other.high;
        }

        long coefficientAt(int slot) {
            return slot >= 0 && slot < SLOTS ? coefficients[slot] : 0L;
        }

        void setCoefficientAt(int slot, long n) {
            if (slot >= 0 && slot < SLOTS) {
                coefficients[slot] = n;
            }
        }

        /** Puts n / divisor rounded down into a slot; the remainder takes up what the rounding loses. */
        void putQuotient(int slot, long n, long divisor) {
            if (slot < 0 || slot >= SLOTS || divisor <= 0L) {
                return;
            }
            long quotient = Math.floorDiv(n, divisor);
            coefficients[slot] = quotient;
            if (quotient * divisor != n) {
                low += Math.min(LOWEST[slot], 0);
                high += 1L;
            }
        }

        void widen(long by) {
            low -= by;
            high += by;
        }

        int width() {
            return (int) (high - low);
        }

        boolean fits() {
            for (int k = 0; k < SLOTS; k++) {
                if (coefficients[k] < -LARGEST || coefficients[k] > LARGEST) {
                    return false;
                }
            }
            return low >= -LARGEST && low <= LARGEST && high >= -LARGEST && high <= LARGEST;
        }

        long spreadLow() {
            long sum = 0L;
            for (int k = 0; k < SLOTS; k++) {
                sum += Math.min(coefficients[k] * LOWEST[k], coefficients[k]);
            }
            return sum;
        }

        long spreadHigh() {
            long sum = 0L;
            for (int k = 0; k < SLOTS; k++) {
                sum += Math.max(coefficients[k] * LOWEST[k], coefficients[k]);
            }
            return sum;
        }

        long boundLow() {
            return spreadLow() + low;
        }

        long boundHigh() {
            return spreadHigh() + high;
        }

        /** Not by way of boundLow and boundHigh, as rule 11 of LANGUAGE.md keeps chains of calls short. */
        boolean staysInSquare() {
            return spreadLow() + low >= -ONE && spreadHigh() + high <= ONE;
        }

        /** A billionth of a thousandth is fine enough for x^3 y^0 to be exact; ten coefficients stay below 2^60. */
        long valueInBillionths(long x, long y) {
            long sum = 0L;
            for (int k = 0; k < SLOTS; k++) {
                long product = coefficients[k];
                for (int factor = 0; factor < HIGHEST_DEGREE; factor++) {
                    if (factor < X_POWER[k]) {
                        product *= x;
                    } else if (factor < X_POWER[k] + Y_POWER[k]) {
                        product *= y;
                    } else {
                        product *= ONE;
                    }
                }
                sum += product;
            }
            return sum;
        }

        int highestDegree() {
            int highest = -1;
            for (int k = 0; k < SLOTS; k++) {
                if (coefficients[k] != 0L) {
                    highest = Math.max(highest, X_POWER[k] + Y_POWER[k]);
                }
            }
            return highest;
        }

        boolean contains(Model other) {
            long least = other.low;
            long most = other.high;
            for (int k = 0; k < SLOTS; k++) {
                long difference = other.coefficients[k] - coefficients[k];
                least += rangeLow(difference, LOWEST[k]);
                most += rangeHigh(difference, LOWEST[k]);
            }
            return least >= low && most <= high;
        }

        int sweepUpTo(long limit) {
            int swept = 0;
            for (int k = 0; k < SLOTS; k++) {
                long c = coefficients[k];
                if (k != CONSTANT_SLOT && c != 0L && Math.abs(c) <= limit) {
                    low += rangeLow(c, LOWEST[k]);
                    high += rangeHigh(c, LOWEST[k]);
                    coefficients[k] = 0L;
                    swept++;
                }
            }
            return swept;
        }

        long addToChecksum(long start) {
            long sum = start;
            for (int k = 0; k < SLOTS; k++) {
                sum = 31L * sum + coefficients[k];
            }
            sum = 31L * sum + low;
            return 31L * sum + high;
        }
    }

    /** The models of an object at one time: bit k of the mask tells whether row k is defined. */
    private static final class Models {
        final Model[] rows = new Model[MODELS];
        int mask;

        Models() {
            for (int k = 0; k < MODELS; k++) {
                rows[k] = new Model();
            }
        }

        boolean has(int index) {
            return index >= 0 && index < MODELS && (mask >> index & 1) == 1;
        }

        int count() {
            return Integer.bitCount(mask);
        }

        void define(int index, Model model) {
            if (index >= 0 && index < MODELS) {
                rows[index].copyFrom(model);
                mask |= 1 << index;
            }
        }

        void remove(int index) {
            if (index >= 0 && index < MODELS) {
                mask &= ~(1 << index);
            }
        }

        void copyFrom(Models other) {
            mask = other.mask;
            for (int k = 0; k < MODELS; k++) {
                rows[k].copyFrom(other.rows[k]);
            }
        }
    }

    /** What the models were before the latest changes; a ring, so that the oldest one makes room by itself. */
    private static final class History {
        final Models[] ring = new Models[UNDO_STEPS];
        int next;
        int count;

        History() {
            for (int k = 0; k < UNDO_STEPS; k++) {
                ring[k] = new Models();
            }
        }

        void remember(Models models) {
            if (next < 0 || next >= UNDO_STEPS) {
                next = 0;
            }
            ring[next].copyFrom(models);
            next = next + 1 == UNDO_STEPS ? 0 : next + 1;
            count = Math.min(count + 1, UNDO_STEPS);
        }

        boolean restore(Models models) {
            if (count == 0) {
                return false;
            }
            int latest = next == 0 ? UNDO_STEPS - 1 : next - 1;
            if (latest < 0 || latest >= UNDO_STEPS) {
                return false;
            }
            models.copyFrom(ring[latest]);
            next = latest;
            count--;
            return true;
        }
    }

    /**
     * The operations on models. Each one tells whether all that it makes stays small enough; if not, what it leaves
     * in its result is of no use. The result may be one of the operands.
     */
    private static final class Arithmetic {
        /** Exponents of products go from 0 to 6. */
        private static final int SIDE = 2 * HIGHEST_DEGREE + 1;

        final long[] products = new long[SIDE * SIDE];
        long low;
        long high;
        final Model part = new Model();
        final Model whole = new Model();
        final Model speed = new Model();
        final Model nextX = new Model();
        final Model nextY = new Model();

        boolean addModels(Model sum, Model a, Model b) {
            for (int k = 0; k < SLOTS; k++) {
                sum.coefficients[k] = a.coefficients[k] + b.coefficients[k];
            }
            sum.low = a.low + b.low;
            sum.high = a.high + b.high;
            return sum.fits();
        }

        boolean subtractModels(Model difference, Model a, Model b) {
            for (int k = 0; k < SLOTS; k++) {
                difference.coefficients[k] = a.coefficients[k] - b.coefficients[k];
            }
            long least = a.low - b.high;
            long most = a.high - b.low;
            difference.low = least;
            difference.high = most;
            return difference.fits();
        }

        /** All is below 2 * 10^18 here, as 100 products of two coefficients are at most 10^18. */
        boolean multiplyModels(Model product, Model a, Model b) {
            collectProducts(a, b);
            low = 0L;
            high = 0L;
            for (int i = 0; i < SIDE; i++) {
                for (int j = Math.max(0, HIGHEST_DEGREE + 1 - i); i + j < SIDE; j++) {
                    long e = products[i * SIDE + j];
                    int lowest = lowestOf(i, j);
                    low += rangeLow(e, lowest);
                    high += rangeHigh(e, lowest);
                }
            }
            addIntervalProduct(a.spreadLow(), a.spreadHigh(), b.low, b.high);
            addIntervalProduct(a.low, a.high, b.spreadLow(), b.spreadHigh());
            addIntervalProduct(a.low, a.high, b.low, b.high);
            product.low = Math.floorDiv(low, ONE);
            product.high = -Math.floorDiv(-high, ONE);
            for (int k = 0; k < SLOTS; k++) {
                product.putQuotient(k, products[X_POWER[k] * SIDE + Y_POWER[k]], ONE);
            }
            return product.fits();
        }

        /** Most models have few terms, and the constants that compositions start from have one: zeros are skipped. */
        private void collectProducts(Model a, Model b) {
            Arrays.fill(products, 0L);
            for (int k = 0; k < SLOTS; k++) {
                for (int m = 0; a.coefficients[k] != 0L && m < SLOTS; m++) {
                    int place = (X_POWER[k] + X_POWER[m]) * SIDE + Y_POWER[k] + Y_POWER[m];
                    products[place] += a.coefficients[k] * b.coefficients[m];
                }
            }
        }

        private void addIntervalProduct(long low1, long high1, long low2, long high2) {
            long p = low1 * low2;
            long q = low1 * high2;
            long r = high1 * low2;
            long s = high1 * high2;
            low += Math.min(Math.min(p, q), Math.min(r, s));
            high += Math.max(Math.max(p, q), Math.max(r, s));
        }

        boolean composeModels(Model composition, Model outer, Model a, Model b) {
            if (!a.staysInSquare() || !b.staysInSquare()) {
                return false;
            }
            whole.becomeConstant(0L);
            for (int k = 0; k < SLOTS; k++) {
                if (outer.coefficients[k] != 0L) {
                    part.becomeConstant(outer.coefficients[k]);
                    for (int factor = 0; factor < X_POWER[k] + Y_POWER[k]; factor++) {
                        if (!multiplyModels(part, part, factor < X_POWER[k] ? a : b)) {
                            return false;
                        }
                    }
                    if (!addModels(whole, whole, part)) {
                        return false;
                    }
                }
            }
            whole.low += outer.low;
            whole.high += outer.high;
            composition.copyFrom(whole);
            return composition.fits();
        }

        boolean integrateModel(Model integral, Model model, int variable) {
            whole.becomeConstant(0L);
            whole.widen(Math.max(Math.abs(model.low), Math.abs(model.high)));
            for (int k = 0; k < SLOTS; k++) {
                int i = variable == 0 ? X_POWER[k] + 1 : X_POWER[k];
                int j = variable == 0 ? Y_POWER[k] : Y_POWER[k] + 1;
                integrateTerm(model.coefficients[k], i, j, variable == 0 ? i : j);
            }
            integral.copyFrom(whole);
            return integral.fits();
        }

        /** The antiderivative of a term is c / divisor times x^i y^j. */
        private void integrateTerm(long c, int i, int j, int divisor) {
            int slot = slotOf(i, j);
            if (slot >= 0) {
                whole.putQuotient(slot, c, divisor);
            } else if (divisor > 0) {
                int lowest = lowestOf(i, j);
                whole.low += Math.floorDiv(rangeLow(c, lowest), (long) divisor);
                whole.high -= Math.floorDiv(-rangeHigh(c, lowest), (long) divisor);
            }
        }

        /** One step; x and y change only when both of their next models are there. */
        boolean moveModels(Model x, Model y, Model f, Model g, long h) {
            speed.becomeConstant(h);
            if (!composeModels(nextX, f, x, y) || !composeModels(nextY, g, x, y)) {
                return false;
            }
            if (!multiplyModels(nextX, speed, nextX) || !multiplyModels(nextY, speed, nextY)) {
                return false;
            }
            if (!addModels(nextX, x, nextX) || !addModels(nextY, y, nextY)) {
                return false;
            }
            x.copyFrom(nextX);
            y.copyFrom(nextY);
            return true;
        }
    }

    /** The input buffer, and the tokens of the setup text in it, of which one is the current one. */
    private static final class SetupText {
        private static final int SPACE = 0;
        private static final int DIGIT = 1;
        private static final int LETTER = 2;
        private static final int SIGN = 3;
        /** Numbers are cut off here, above all that is allowed, as their runs may be of any length. */
        private static final int CUT_OFF = 1000000;

        final int[] bytes = new int[BUFFER_BYTES];
        int filled;
        final int[] starts = new int[BUFFER_BYTES + 1];
        final int[] ends = new int[BUFFER_BYTES + 1];
        int last;
        int current;
        /** The current token goes from start to before end, and first is its first byte, or -1 at the text's end. */
        int start;
        int end;
        int first;

        void putWord(int word) {
            for (int shift = 24; shift >= 0; shift -= 8) {
                if (filled >= 0 && filled < BUFFER_BYTES) {
                    bytes[filled] = word >>> shift & 255;
                    filled++;
                }
            }
        }

        /** Splits the first bytes of the buffer into tokens; the last token is the empty one at the text's end. */
        void split(int length) {
            int count = 0;
            int before = SPACE;
            for (int at = 0; at < length && at < BUFFER_BYTES; at++) {
                int kind = kindOf(bytes[at]);
                if (count > 0 && kind == before && (kind == DIGIT || kind == LETTER)) {
                    ends[count - 1] = at + 1;
                } else if (kind != SPACE && count < BUFFER_BYTES) {
                    starts[count] = at;
                    ends[count] = at + 1;
                    count++;
                }
                before = kind;
            }
            starts[count] = length;
            ends[count] = length;
            last = count;
            current = -1;
            advance();
        }

        private static int kindOf(int sign) {
            if (sign == ' ') {
                return SPACE;
            }
            if (sign >= '0' && sign <= '9') {
                return DIGIT;
            }
            return sign >= 'a' && sign <= 'z' ? LETTER : SIGN;
        }

        void advance() {
            if (current < last) {
                current++;
            }
            if (current >= 0 && current <= BUFFER_BYTES) {
                start = starts[current];
                end = ends[current];
            }
            first = current < last && start >= 0 && start < BUFFER_BYTES ? bytes[start] : -1;
        }

        boolean isWord(String word) {
            if (end - start != word.length()) {
                return false;
            }
            for (int k = 0; k < word.length(); k++) {
                if (start + k < 0 || start + k >= BUFFER_BYTES || bytes[start + k] != word.charAt(k)) {
                    return false;
                }
            }
            return true;
        }

        /** The index of the model that the current token names, or -1 if it is no name. */
        int name() {
            boolean named = end - start == 1 && first >= 'a' && first < 'a' + MODELS;
            return named ? first - 'a' : -1;
        }

        boolean isNumber() {
            return first >= '0' && first <= '9';
        }

        int number() {
            int n = 0;
            for (int at = start; at < end && at >= 0 && at < BUFFER_BYTES; at++) {
                n = Math.min(10 * n + bytes[at] - '0', CUT_OFF);
            }
            return n;
        }
    }

    /**
     * Reads a setup text into a draft of the models, and stops at the first error, which is always at the current
     * token. A row of each kind stands for every level of nesting, so that an inner sum leaves the outer ones alone.
     */
    private static final class SetupReader {
        private static final int MOST_OPEN = 4;
        private static final int LEVELS = MOST_OPEN + 1;
        private static final int LARGEST_NUMBER = 100000;

        final SetupText text = new SetupText();
        final Models draft = new Models();
        final Arithmetic arithmetic = new Arithmetic();
        final Model[] sums = new Model[LEVELS];
        final Model[] terms = new Model[LEVELS];
        final Model[] factors = new Model[LEVELS];
        final Model[] arguments = new Model[LEVELS];
        int error;

        SetupReader() {
            for (int level = 0; level < LEVELS; level++) {
                sums[level] = new Model();
                terms[level] = new Model();
                factors[level] = new Model();
                arguments[level] = new Model();
            }
        }

        boolean readSetup(int length) {
            draft.mask = 0;
            text.split(length);
            if (!text.isWord("models")) {
                return fail(SYNTAX_ERROR);
            }
            text.advance();
            if (!take(';')) {
                return false;
            }
            for (int count = 0; count < BUFFER_BYTES && text.first >= 0; count++) {
                int target = text.name();
                if (target < 0) {
                    return fail(SYNTAX_ERROR);
                }
                text.advance();
                if (!take('=') || !readSum(0) || !readUncertainty() || !take(';')) {
                    return false;
                }
                draft.define(target, sums[0]);
            }
            return true;
        }

        private boolean fail(int code) {
            error = code;
            return false;
        }

        private boolean take(int sign) {
            if (text.first != sign) {
                return fail(SYNTAX_ERROR);
            }
            text.advance();
            return true;
        }

        private boolean open(int sign, int level) {
            if (text.first != sign) {
                return fail(SYNTAX_ERROR);
            }
            if (level >= MOST_OPEN) {
                return fail(TOO_DEEP);
            }
            text.advance();
            return true;
        }

        private boolean readUncertainty() {
            if (text.first != '#') {
                return true;
            }
            text.advance();
            if (!checkNumber()) {
                return false;
            }
            sums[0].widen(text.number());
            text.advance();
            return sums[0].fits() || fail(REFUSED);
        }

        private boolean checkNumber() {
            if (!text.isNumber()) {
                return fail(SYNTAX_ERROR);
            }
            return text.number() <= LARGEST_NUMBER || fail(OUT_OF_RANGE);
        }

        /** Leaves the value in sums[level]. */
        private boolean readSum(int level) {
            if (level < 0 || level >= LEVELS) {
                return fail(TOO_DEEP);
            }
            if (!readTerm(level)) {
                return false;
            }
            Model sum = sums[level];
            sum.copyFrom(terms[level]);
            for (int count = 0; count < BUFFER_BYTES && (text.first == '+' || text.first == '-'); count++) {
                boolean plus = text.first == '+';
                text.advance();
                if (!readTerm(level)) {
                    return false;
                }
                boolean fits = plus
                        ? arithmetic.addModels(sum, sum, terms[level])
                        : arithmetic.subtractModels(sum, sum, terms[level]);
                if (!fits) {
                    return fail(REFUSED);
                }
            }
            return true;
        }

        /** Leaves the value in terms[level]. */
        private boolean readTerm(int level) {
            if (level < 0 || level >= LEVELS) {
                return fail(TOO_DEEP);
            }
            if (!readFactor(level)) {
                return false;
            }
            Model term = terms[level];
            term.copyFrom(factors[level]);
            for (int count = 0; count < BUFFER_BYTES && text.first == '*'; count++) {
                text.advance();
                if (!readFactor(level)) {
                    return false;
                }
                if (!arithmetic.multiplyModels(term, term, factors[level])) {
                    return fail(REFUSED);
                }
            }
            return true;
        }

        /** Leaves the value in factors[level]. */
        private boolean readFactor(int level) {
            if (level < 0 || level >= LEVELS) {
                return fail(TOO_DEEP);
            }
            Model factor = factors[level];
            if (text.isWord("x") || text.isWord("y")) {
                factor.becomeVariable(text.isWord("x") ? X_SLOT : Y_SLOT);
                text.advance();
                return true;
            }
            if (text.isWord("intx") || text.isWord("inty")) {
                int variable = text.isWord("intx") ? 0 : 1;
                text.advance();
                if (!readParenthesis(level)) {
                    return false;
                }
                return arithmetic.integrateModel(factor, arguments[level], variable) || fail(REFUSED);
            }
            if (text.first == '(') {
                boolean read = readParenthesis(level);
                factor.copyFrom(arguments[level]);
                return read;
            }
            int name = text.name();
            if (name < 0) {
                return readConstant(factor);
            }
            if (!draft.has(name)) {
                return fail(UNDEFINED);
            }
            text.advance();
            factor.copyFrom(draft.rows[name]);
            if (text.first != '[') {
                return true;
            }
            return readBrackets(level)
                    && (arithmetic.composeModels(factor, factor, arguments[level], sums[level + 1]) || fail(REFUSED));
        }

        private boolean readConstant(Model factor) {
            if (!checkNumber()) {
                return false;
            }
            factor.becomeConstant(text.number());
            text.advance();
            return true;
        }

        /** Leaves the value of the sum in arguments[level]. */
        private boolean readParenthesis(int level) {
            if (!open('(', level) || !readSum(level + 1) || !take(')')) {
                return false;
            }
            arguments[level].copyFrom(sums[level + 1]);
            return true;
        }

        /** Leaves the values of the two sums in arguments[level] and sums[level + 1]. */
        private boolean readBrackets(int level) {
            if (!open('[', level) || !readSum(level + 1) || !take(',')) {
                return false;
            }
            arguments[level].copyFrom(sums[level + 1]);
            return readSum(level + 1) && take(']');
        }
    }
}
