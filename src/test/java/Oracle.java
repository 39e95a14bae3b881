import java.math.BigInteger;
import java.util.ArrayDeque;
import java.util.Deque;
import java.util.Map;
import java.util.NoSuchElementException;
import java.util.TreeMap;

/** A second reading of the document, slow and plain: exact numbers of any size, and models that never change. */
final class Oracle {
    private static final BigInteger MOST = BigInteger.valueOf(100000000);
    private static final BigInteger THOUSAND = BigInteger.valueOf(1000);

    /** Something is too large, or a composition is not possible. */
    private static final class Refused extends Exception {
        private static final long serialVersionUID = 1;
    }

    /** An error of a setup text. */
    private static final class Fault extends Exception {
        private static final long serialVersionUID = 1;
        final int code;
        final int offset;

        Fault(int code, int offset) {
            this.code = code;
            this.offset = offset;
        }
    }

    private record Interval(BigInteger low, BigInteger high) {
        static final Interval NOTHING = new Interval(BigInteger.ZERO, BigInteger.ZERO);

        Interval plus(Interval o) {
            return new Interval(low.add(o.low), high.add(o.high));
        }

        Interval minus(Interval o) {
            return new Interval(low.subtract(o.high), high.subtract(o.low));
        }

        Interval times(Interval o) {
            BigInteger[] p = {low.multiply(o.low), low.multiply(o.high), high.multiply(o.low), high.multiply(o.high)};
            BigInteger least = p[0];
            BigInteger most = p[0];
            for (BigInteger n : p) {
                least = least.min(n);
                most = most.max(n);
            }
            return new Interval(least, most);
        }

        Interval over(BigInteger n) {
            return new Interval(down(low, n), up(high, n));
        }

        boolean within(Interval o) {
            return o.low.compareTo(low) <= 0 && high.compareTo(o.high) <= 0;
        }
    }

    /** The exponents of x and y as 10 * i + j. */
    private record Model(TreeMap<Integer, BigInteger> terms, Interval rest) {
        BigInteger at(int i, int j) {
            return terms.getOrDefault(10 * i + j, BigInteger.ZERO);
        }
    }

    private static BigInteger down(BigInteger n, BigInteger d) {
        BigInteger[] q = n.divideAndRemainder(d);
        return q[1].signum() < 0 ? q[0].subtract(BigInteger.ONE) : q[0];
    }

    private static BigInteger up(BigInteger n, BigInteger d) {
        return down(n.negate(), d).negate();
    }

    private static Interval symmetric(long n) {
        return new Interval(BigInteger.valueOf(-n), BigInteger.valueOf(n));
    }

    private static Interval range(BigInteger n, int i, int j) {
        if (i + j == 0) {
            return new Interval(n, n);
        }
        if (i % 2 == 0 && j % 2 == 0) {
            return new Interval(n.min(BigInteger.ZERO), n.max(BigInteger.ZERO));
        }
        return new Interval(n.abs().negate(), n.abs());
    }

    private static Interval rounding(int i, int j) {
        return i + j == 0 ? new Interval(BigInteger.ZERO, BigInteger.ONE) : range(BigInteger.ONE, i, j);
    }

    private static Interval spread(Model m) {
        Interval sum = Interval.NOTHING;
        for (Map.Entry<Integer, BigInteger> t : m.terms.entrySet()) {
            sum = sum.plus(range(t.getValue(), t.getKey() / 10, t.getKey() % 10));
        }
        return sum;
    }

    private static Interval boundOf(Model m) {
        return spread(m).plus(m.rest);
    }

    private static Model checked(TreeMap<Integer, BigInteger> terms, Interval rest) throws Refused {
        terms.values().removeIf(n -> n.signum() == 0);
        for (BigInteger n : terms.values()) {
            if (n.abs().compareTo(MOST) > 0) {
                throw new Refused();
            }
        }
        if (!rest.within(symmetric(100000000))) {
            throw new Refused();
        }
        return new Model(terms, rest);
    }

    private static Model constant(long n) {
        TreeMap<Integer, BigInteger> terms = new TreeMap<>();
        if (n != 0) {
            terms.put(0, BigInteger.valueOf(n));
        }
        return new Model(terms, Interval.NOTHING);
    }

    private static Model variable(int key) {
        TreeMap<Integer, BigInteger> terms = new TreeMap<>();
        terms.put(key, THOUSAND);
        return new Model(terms, Interval.NOTHING);
    }

    private static Model sum(Model a, Model b, int sign) throws Refused {
        TreeMap<Integer, BigInteger> terms = new TreeMap<>(a.terms);
        for (Map.Entry<Integer, BigInteger> t : b.terms.entrySet()) {
            BigInteger n = sign > 0 ? t.getValue() : t.getValue().negate();
            terms.merge(t.getKey(), n, BigInteger::add);
        }
        return checked(terms, sign > 0 ? a.rest.plus(b.rest) : a.rest.minus(b.rest));
    }

    private static Model product(Model a, Model b) throws Refused {
        TreeMap<Integer, BigInteger> all = new TreeMap<>();
        for (Map.Entry<Integer, BigInteger> s : a.terms.entrySet()) {
            for (Map.Entry<Integer, BigInteger> t : b.terms.entrySet()) {
                all.merge(s.getKey() + t.getKey(), s.getValue().multiply(t.getValue()), BigInteger::add);
            }
        }
        TreeMap<Integer, BigInteger> terms = new TreeMap<>();
        Interval rest = Interval.NOTHING;
        Interval fine = Interval.NOTHING;
        for (Map.Entry<Integer, BigInteger> t : all.entrySet()) {
            int i = t.getKey() / 10;
            int j = t.getKey() % 10;
            BigInteger e = t.getValue();
            if (i + j > 3) {
                fine = fine.plus(range(e, i, j));
            } else {
                terms.put(t.getKey(), down(e, THOUSAND));
                if (e.mod(THOUSAND).signum() != 0) {
                    rest = rest.plus(rounding(i, j));
                }
            }
        }
        fine = fine.plus(spread(a).times(b.rest)).plus(a.rest.times(spread(b))).plus(a.rest.times(b.rest));
        return checked(terms, rest.plus(fine.over(THOUSAND)));
    }

    private static int whyNot(Model p, Model a, Model b) {
        if (!boundOf(a).within(symmetric(1000))) {
            return 1;
        }
        if (!boundOf(b).within(symmetric(1000))) {
            return 2;
        }
        try {
            composition(p, a, b);
            return 0;
        } catch (Refused e) {
            return 3;
        }
    }

    private static Model composition(Model p, Model a, Model b) throws Refused {
        if (!boundOf(a).within(symmetric(1000)) || !boundOf(b).within(symmetric(1000))) {
            throw new Refused();
        }
        Model sum = constant(0);
        for (int i = 0; i <= 3; i++) {
            for (int j = 0; j <= 3 - i; j++) {
                if (p.at(i, j).signum() != 0) {
                    Model part = constant(p.at(i, j).longValueExact());
                    for (int k = 0; k < i; k++) {
                        part = product(part, a);
                    }
                    for (int k = 0; k < j; k++) {
                        part = product(part, b);
                    }
                    sum = sum(sum, part, 1);
                }
            }
        }
        return checked(new TreeMap<>(sum.terms), sum.rest.plus(p.rest));
    }

    private static Model antiderivative(Model m, int variable) throws Refused {
        TreeMap<Integer, BigInteger> terms = new TreeMap<>();
        Interval rest = symmetric(m.rest.low.abs().max(m.rest.high.abs()).longValueExact());
        for (Map.Entry<Integer, BigInteger> t : m.terms.entrySet()) {
            int i = t.getKey() / 10 + (variable == 0 ? 1 : 0);
            int j = t.getKey() % 10 + (variable == 0 ? 0 : 1);
            BigInteger d = BigInteger.valueOf(variable == 0 ? i : j);
            if (i + j == 4) {
                rest = rest.plus(range(t.getValue(), i, j).over(d));
            } else {
                terms.put(10 * i + j, down(t.getValue(), d));
                if (t.getValue().mod(d).signum() != 0) {
                    rest = rest.plus(rounding(i, j));
                }
            }
        }
        return checked(terms, rest);
    }

    /** Reads by characters, without tokens kept, so as to read otherwise than the class does. */
    private final class Reader {
        final String text;
        int at = 0;
        final Model[] draft = new Model[8];

        Reader(String text) {
            this.text = text;
        }

        private void skip() {
            while (at < text.length() && text.charAt(at) == ' ') {
                at++;
            }
        }

        private char sign() {
            skip();
            return at < text.length() ? text.charAt(at) : (char) 0xffff;
        }

        private String run(char from, char to) {
            skip();
            int end = at;
            while (end < text.length() && text.charAt(end) >= from && text.charAt(end) <= to) {
                end++;
            }
            return text.substring(at, end);
        }

        private Fault fault(int code) {
            skip();
            return new Fault(code, at);
        }

        private void expect(String word) throws Fault {
            boolean letters = word.charAt(0) >= 'a' && word.charAt(0) <= 'z';
            if (letters ? !run('a', 'z').equals(word) : sign() != word.charAt(0)) {
                throw fault(TaylorModels.SYNTAX_ERROR);
            }
            at += word.length();
        }

        private int name() {
            String word = run('a', 'z');
            return word.length() == 1 && word.charAt(0) <= 'h' ? word.charAt(0) - 'a' : -1;
        }

        private long number() throws Fault {
            String digits = run('0', '9');
            if (digits.isEmpty()) {
                throw fault(TaylorModels.SYNTAX_ERROR);
            }
            BigInteger n = new BigInteger(digits);
            if (n.compareTo(BigInteger.valueOf(100000)) > 0) {
                throw fault(TaylorModels.OUT_OF_RANGE);
            }
            at += digits.length();
            return n.longValueExact();
        }

        void setup() throws Fault {
            expect("models");
            expect(";");
            while (sign() != 0xffff) {
                int target = name();
                if (target < 0) {
                    throw fault(TaylorModels.SYNTAX_ERROR);
                }
                at++;
                expect("=");
                Model m = sum(0);
                if (sign() == '#') {
                    at++;
                    Interval more = symmetric(number());
                    try {
                        m = checked(new TreeMap<>(m.terms), m.rest.plus(more));
                    } catch (Refused e) {
                        throw fault(TaylorModels.REFUSED);
                    }
                }
                expect(";");
                draft[target] = m;
            }
        }

        private Model sum(int open) throws Fault {
            Model all = term(open);
            while (sign() == '+' || sign() == '-') {
                int plus = sign() == '+' ? 1 : -1;
                at++;
                Model next = term(open);
                try {
                    all = Oracle.sum(all, next, plus);
                } catch (Refused e) {
                    throw fault(TaylorModels.REFUSED);
                }
            }
            return all;
        }

        private Model term(int open) throws Fault {
            Model all = factor(open);
            while (sign() == '*') {
                at++;
                Model next = factor(open);
                try {
                    all = product(all, next);
                } catch (Refused e) {
                    throw fault(TaylorModels.REFUSED);
                }
            }
            return all;
        }

        private void open(char bracket, int open) throws Fault {
            if (sign() == bracket && open == 4) {
                throw fault(TaylorModels.TOO_DEEP);
            }
            expect(String.valueOf(bracket));
        }

        private Model factor(int open) throws Fault {
            String word = run('a', 'z');
            if (word.equals("x") || word.equals("y")) {
                at++;
                return variable(word.equals("x") ? 10 : 1);
            }
            if (word.equals("intx") || word.equals("inty")) {
                at += 4;
                open('(', open);
                Model inner = sum(open + 1);
                expect(")");
                try {
                    return antiderivative(inner, word.equals("intx") ? 0 : 1);
                } catch (Refused e) {
                    throw fault(TaylorModels.REFUSED);
                }
            }
            if (name() >= 0) {
                return named(open);
            }
            if (sign() == '(') {
                open('(', open);
                Model inner = sum(open + 1);
                expect(")");
                return inner;
            }
            return constant(number());
        }

        private Model named(int open) throws Fault {
            Model outer = draft[name()];
            if (outer == null) {
                throw fault(TaylorModels.UNDEFINED);
            }
            at++;
            if (sign() != '[') {
                return outer;
            }
            open('[', open);
            Model first = sum(open + 1);
            expect(",");
            Model second = sum(open + 1);
            expect("]");
            try {
                return composition(outer, first, second);
            } catch (Refused e) {
                throw fault(TaylorModels.REFUSED);
            }
        }
    }

    private Model[] now = new Model[8];
    private final Deque<Model[]> past = new ArrayDeque<>();
    private final StringBuilder buffer = new StringBuilder();
    private int offset = -1;

    private void changed() {
        past.addLast(now.clone());
        if (past.size() > 8) {
            past.removeFirst();
        }
    }

    private void indexes(int... all) {
        for (int k : all) {
            if (k < 0 || k > 7) {
                throw new IndexOutOfBoundsException();
            }
        }
    }

    private void present(int... all) {
        for (int k : all) {
            if (now[k] == null) {
                throw new NoSuchElementException();
            }
        }
    }

    private void asks(boolean fine) {
        if (!fine) {
            throw new IllegalArgumentException();
        }
    }

    private static boolean in(long n, long from, long to) {
        return n >= from && n <= to;
    }

    private static boolean isPlace(int i, int j) {
        return in(i, 0, 3) && in(j, 0, 3) && i + j <= 3;
    }

    private int width(Model m) {
        return m.rest.high.subtract(m.rest.low).intValueExact();
    }

    int append(int... words) {
        if (buffer.length() + 20 > 700) {
            return -1;
        }
        for (int w : words) {
            for (int shift = 24; shift >= 0; shift -= 8) {
                buffer.append((char) (w >> shift & 255));
            }
        }
        return buffer.length();
    }

    int load(int length) {
        asks(in(length, 0, buffer.length()));
        Reader reader = new Reader(buffer.substring(0, length));
        buffer.setLength(0);
        try {
            reader.setup();
        } catch (Fault e) {
            offset = e.offset;
            return e.code;
        }
        offset = -1;
        changed();
        now = reader.draft;
        return Integer.bitCount(defined());
    }

    int errorOffset() {
        return offset;
    }

    int defined() {
        int set = 0;
        for (int k = 0; k < 8; k++) {
            set += now[k] == null ? 0 : 1 << k;
        }
        return set;
    }

    int coefficient(int model, int i, int j) {
        indexes(model);
        present(model);
        asks(isPlace(i, j));
        return now[model].at(i, j).intValueExact();
    }

    private static int end(Interval interval, int which) {
        return (which == 0 ? interval.low : interval.high).intValueExact();
    }

    int remainder(int model, int which) {
        indexes(model);
        present(model);
        asks(in(which, 0, 1));
        return end(now[model].rest, which);
    }

    int bound(int model, int which) {
        indexes(model);
        present(model);
        asks(in(which, 0, 1));
        return end(boundOf(now[model]), which);
    }

    int value(int model, int x, int y, int which) {
        indexes(model);
        present(model);
        asks(in(x, -1000, 1000) && in(y, -1000, 1000) && in(which, 0, 1));
        BigInteger sum = BigInteger.ZERO;
        for (Map.Entry<Integer, BigInteger> t : now[model].terms.entrySet()) {
            int i = t.getKey() / 10;
            int j = t.getKey() % 10;
            sum = sum.add(t.getValue().multiply(BigInteger.valueOf(x).pow(i)).multiply(BigInteger.valueOf(y).pow(j))
                    .multiply(THOUSAND.pow(6 - i - j)));
        }
        return end(new Interval(sum, sum).over(THOUSAND.pow(6)).plus(now[model].rest), which);
    }

    int degree(int model) {
        indexes(model);
        present(model);
        int most = -1;
        for (int key : now[model].terms.keySet()) {
            most = Math.max(most, key / 10 + key % 10);
        }
        return most;
    }

    boolean covers(int first, int second) {
        indexes(first, second);
        present(first, second);
        TreeMap<Integer, BigInteger> terms = new TreeMap<>(now[second].terms);
        now[first].terms.forEach((key, n) -> terms.merge(key, n.negate(), BigInteger::add));
        return spread(new Model(terms, Interval.NOTHING)).plus(now[second].rest).within(now[first].rest);
    }

    int reason(int outer, int first, int second) {
        indexes(outer, first, second);
        present(outer, first, second);
        return whyNot(now[outer], now[first], now[second]);
    }

    private int become(int target, Model m) {
        changed();
        now[target] = m;
        return width(m);
    }

    int operate(String call, int target, int first, int second) {
        indexes(target, first, second);
        present(first, second);
        try {
            Model a = now[first];
            Model b = now[second];
            return become(target, call.equals("multiply") ? product(a, b) : sum(a, b, call.equals("add") ? 1 : -1));
        } catch (Refused e) {
            throw new IllegalStateException();
        }
    }

    int compose(int target, int outer, int first, int second) {
        indexes(target, outer, first, second);
        present(outer, first, second);
        try {
            return become(target, composition(now[outer], now[first], now[second]));
        } catch (Refused e) {
            throw new IllegalStateException();
        }
    }

    int integrate(int target, int model, int variable) {
        indexes(target, model);
        present(model);
        asks(in(variable, 0, 1));
        try {
            return become(target, antiderivative(now[model], variable));
        } catch (Refused e) {
            throw new IllegalStateException();
        }
    }

    int step(int h, int most) {
        present(0, 1, 2, 3);
        asks(in(h, -1000, 1000) && in(most, 1, 20));
        changed();
        for (int made = 0; made < most; made++) {
            try {
                Model x = sum(now[0], product(constant(h), composition(now[2], now[0], now[1])), 1);
                Model y = sum(now[1], product(constant(h), composition(now[3], now[0], now[1])), 1);
                now[0] = x;
                now[1] = y;
            } catch (Refused e) {
                return made;
            }
        }
        return most;
    }

    int sweep(int target, int limit) {
        indexes(target);
        present(target);
        asks(in(limit, 0, 100000000));
        TreeMap<Integer, BigInteger> terms = new TreeMap<>();
        Interval rest = now[target].rest;
        for (Map.Entry<Integer, BigInteger> t : now[target].terms.entrySet()) {
            if (t.getKey() > 0 && t.getValue().abs().compareTo(BigInteger.valueOf(limit)) <= 0) {
                rest = rest.plus(range(t.getValue(), t.getKey() / 10, t.getKey() % 10));
            } else {
                terms.put(t.getKey(), t.getValue());
            }
        }
        int swept = now[target].terms.size() - terms.size();
        try {
            become(target, checked(terms, rest));
        } catch (Refused e) {
            throw new IllegalStateException();
        }
        return swept;
    }

    int wrap(int target, int variable) {
        indexes(target);
        present(target);
        asks(in(variable, 0, 1));
        Interval box = boundOf(now[target]);
        BigInteger middle = down(box.low.add(box.high), BigInteger.TWO);
        TreeMap<Integer, BigInteger> terms = new TreeMap<>();
        terms.put(0, middle);
        terms.put(variable == 0 ? 10 : 1, box.high.subtract(middle));
        try {
            become(target, checked(terms, Interval.NOTHING));
        } catch (Refused e) {
            throw new IllegalStateException();
        }
        return box.high.subtract(middle).intValueExact();
    }

    int setCoefficient(int target, int i, int j, int value) {
        indexes(target);
        present(target);
        asks(isPlace(i, j) && in(value, -100000000, 100000000));
        int previous = now[target].at(i, j).intValueExact();
        TreeMap<Integer, BigInteger> terms = new TreeMap<>(now[target].terms);
        terms.put(10 * i + j, BigInteger.valueOf(value));
        terms.values().removeIf(n -> n.signum() == 0);
        become(target, new Model(terms, now[target].rest));
        return previous;
    }

    int setRemainder(int target, int low, int high) {
        indexes(target);
        present(target);
        asks(in(low, -100000000, 100000000) && in(high, low, 100000000));
        int previous = width(now[target]);
        become(target, new Model(now[target].terms, new Interval(BigInteger.valueOf(low), BigInteger.valueOf(high))));
        return previous;
    }

    boolean clear(int target) {
        indexes(target);
        changed();
        boolean was = now[target] != null;
        now[target] = null;
        return was;
    }

    int undo() {
        if (past.isEmpty()) {
            return -1;
        }
        now = past.removeLast();
        return past.size();
    }

    long checksum() {
        long sum = defined();
        for (Model m : now) {
            if (m != null) {
                for (int i = 0; i <= 3; i++) {
                    for (int j = 0; i + j <= 3; j++) {
                        sum = 31 * sum + m.at(i, j).longValueExact();
                    }
                }
                sum = 31 * sum + m.rest.low.longValueExact();
                sum = 31 * sum + m.rest.high.longValueExact();
            }
        }
        return sum;
    }
}
