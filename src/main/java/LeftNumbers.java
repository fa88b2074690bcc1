/** A bench for numbers whose figures, to a prime, go on to the left for ever. */
public final class LeftNumbers {
    public static final int NONE = -1, BAD = -2, KIND = -3, ZERO = -4, LITTLE = -5, FULL = -6, BEYOND = -7;

    private static final int NO_LIFT = -100, NO_TOLD = -1, NO_PART = 0, NO_COEFFICIENT = 2000000;
    private static final int NUMBER = 0, RATIO = 1, ROOT = 2, SHADOW = 3;
    private static final int SUM = 0, LESS = 1, TIMES = 2, OVER = 3;
    private static final int MOST_NUMBERS = 60;
    private static final int FARTHEST_LIFT = 60;
    private static final int GREATEST_PART = 1000000000;
    private static final int COEFFICIENTS = 8;
    private static final int GREATEST_COEFFICIENT = 1000000;
    private static final int LOWEST_FIGURE = -100, HIGHEST_FIGURE = 1000;
    private static final int LOWEST_NEAR = -60, HIGHEST_NEAR = 100;
    private static final int LONGEST_ROUND = 2000;
    // Above every LIFT, and above every place where sure figures end.
    private static final int WITHOUT_END = 1000;
    // Euclid's steps on two longs are fewer than this.
    private static final int EUCLID_STEPS = 100;

    private final Figures figures = new Figures();
    private final Arithmetic arithmetic = new Arithmetic(figures);
    private final Value[] numbers = new Value[MOST_NUMBERS];
    private final int[] polynomial = new int[COEFFICIENTS];
    // What a call makes stands here until it is kept, so that no call makes an object.
    private final Value made = new Value();
    private final Value between = new Value();
    private final Value term = new Value();
    private int held = 0;
    private boolean mayUndo = false;

    public LeftNumbers() {
        for (int i = 0; i < numbers.length; i++) {
            numbers[i] = new Value();
        }
    }

    public int prime(int p) {
        if (!Figures.isPrime(p)) {
            return BAD;
        }
        figures.choose(p);
        held = 0;
        mayUndo = false;
        for (int i = 0; i < polynomial.length; i++) {
            polynomial[i] = 0;
        }
        return figures.most;
    }

    public int ratio(int up, int low) {
        if (low == 0 || isTooGreat(up, GREATEST_PART) || isTooGreat(low, GREATEST_PART)) {
            return BAD;
        }
        arithmetic.setFraction(up, low, made);
        return keep(made);
    }

    public int number(int lift, long bits, int n) {
        if (isTooGreat(lift, FARTHEST_LIFT) || bits < 0 || isNoSure(n)) {
            return BAD;
        }
        arithmetic.setFigures(lift, bits % figures.power(n), n, made);
        return keep(made);
    }

    public int shadow(int x, int n) {
        Value value = find(x);
        if (value == null || n < 0 || n > value.sure) {
            return BAD;
        }
        if (value.isNought() || value.isZero()) {
            return KIND;
        }
        made.set(SHADOW, value.lift, n, value.u % figures.power(n));
        return keep(made);
    }

    public int of(int way, int x, int y) {
        Value left = find(x);
        Value right = find(y);
        if (way < SUM || way > OVER || left == null || right == null) {
            return BAD;
        }
        if (way == OVER && (right.isNought() || right.isZero())) {
            return ZERO;
        }
        arithmetic.combine(way, left, right, made);
        return keep(made);
    }

    public int kind(int x) {
        Value value = find(x);
        return value == null ? BAD : value.kind;
    }

    public int lift(int x) {
        Value value = find(x);
        return value == null ? NO_LIFT : value.lift;
    }

    public int sure(int x) {
        Value value = find(x);
        return value == null ? BAD : value.sure;
    }

    public int figure(int x, int i) {
        Value value = find(x);
        if (value == null || i < LOWEST_FIGURE || i > HIGHEST_FIGURE) {
            return BAD;
        }
        if (i < value.lift || value.isZero()) {
            return 0;
        }
        if (value.kind == RATIO) {
            return ratioFigure(value, i - value.lift);
        }
        return i < value.lift + value.sure ? figures.lowest(value.u / figures.power(i - value.lift)) : NONE;
    }

    public long told(int x) {
        Value value = find(x);
        return value == null ? NO_TOLD : value.u;
    }

    public int part(int x, int what) {
        Value value = find(x);
        if (value == null || what < 0 || what > 1 || value.kind != RATIO) {
            return NO_PART;
        }
        return what == 0 ? value.up : value.low;
    }

    public int near(int x, int y, int k) {
        Value left = find(x);
        Value right = find(y);
        if (left == null || right == null || k < LOWEST_NEAR || k > HIGHEST_NEAR) {
            return BAD;
        }
        arithmetic.combine(LESS, left, right, between);
        if (between.isZero()) {
            return 1;
        }
        if (between.isNought() && k > between.lift) {
            return 2;
        }
        return k <= between.lift ? 1 : 0;
    }

    public int guess(int x, int bound) {
        Value value = find(x);
        if (value == null || bound < 1 || bound > GREATEST_PART) {
            return BAD;
        }
        if (value.isNought()) {
            return KIND;
        }
        if (2L * bound * bound >= figures.power(value.sure)) {
            return BAD;
        }
        boolean found = value.kind == RATIO ? copyWithin(value, bound) : fractionWithin(value, bound);
        return found ? keep(made) : NONE;
    }

    public int round(int x, int what) {
        Value value = find(x);
        if (value == null || what < 0 || what > 1) {
            return BAD;
        }
        if (value.kind != RATIO || value.isZero()) {
            return KIND;
        }
        return comingRound(value, what == 0);
    }

    public int coefficient(int i, int c) {
        if (i < 0 || i >= polynomial.length || isTooGreat(c, GREATEST_COEFFICIENT)) {
            return NO_COEFFICIENT;
        }
        int before = polynomial[i];
        polynomial[i] = c;
        return before;
    }

    public int at(int x) {
        Value value = find(x);
        if (value == null) {
            return BAD;
        }
        if (held >= MOST_NUMBERS) {
            return FULL;
        }
        arithmetic.setFraction(polynomial[COEFFICIENTS - 1], 1, made);
        for (int i = COEFFICIENTS - 2; i >= 0; i--) {
            arithmetic.combine(TIMES, made, value, between);
            // What is between is a NUMBER too, though not kept: its LIFT has the same bounds.
            if (between.isBeyond()) {
                return BEYOND;
            }
            arithmetic.setFraction(polynomial[i], 1, term);
            arithmetic.combine(SUM, between, term, made);
            if (made.isBeyond()) {
                return BEYOND;
            }
        }
        return keep(made);
    }

    public int firsts(int what) {
        if (what < 0 || what > 1) {
            return BAD;
        }
        int together = 0;
        for (int f = 0; f < figures.p; f++) {
            boolean wanted = what == 0 ? isGood(f) : isStuck(f);
            together |= wanted ? 1 << f : 0;
        }
        return together;
    }

    public int root(int f, int n) {
        if (f < 0 || f >= figures.p || isNoSure(n)) {
            return BAD;
        }
        if (!isGood(f)) {
            return NONE;
        }
        made.first = f;
        System.arraycopy(polynomial, 0, made.polynomial, 0, COEFFICIENTS);
        setRoot(made, n);
        return keep(made);
    }

    public int more(int x, int n) {
        Value value = find(x);
        if (value == null || isNoSure(n)) {
            return BAD;
        }
        if (value.kind != ROOT) {
            return KIND;
        }
        setRoot(value, n);
        return value.sure;
    }

    public int square(int x) {
        Value value = find(x);
        if (value == null) {
            return BAD;
        }
        if (value.isNought() || value.isZero()) {
            return KIND;
        }
        if (value.lift % 2 != 0) {
            return NONE;
        }
        return figures.p == 2 ? squareOfTwo(value) : squareOfOdd(value);
    }

    public int unit(int f) {
        if (f < 1 || f >= figures.p) {
            return BAD;
        }
        // Each power by p leaves the first figure and makes one figure more stand still.
        long u = f;
        for (int sure = 1; sure < figures.most; sure++) {
            u = figures.toThePrime(u, figures.most);
        }
        made.set(NUMBER, 0, figures.most, u);
        return keep(made);
    }

    public int undo() {
        if (!mayUndo || held < 1) {
            return KIND;
        }
        mayUndo = false;
        held--;
        return held;
    }

    public int count(int what) {
        switch (what) {
            case 0:
                return figures.p;
            case 1:
                return figures.most;
            case 2:
                return held;
            case 3:
                return mayUndo ? 1 : 0;
            default:
                return BAD;
        }
    }

    private Value find(int x) {
        return x < 0 || x >= held || x >= numbers.length ? null : numbers[x];
    }

    private int keep(Value value) {
        if (held >= MOST_NUMBERS) {
            return FULL;
        }
        if (value.isBeyond()) {
            return BEYOND;
        }
        numbers[held].copy(value);
        held++;
        mayUndo = true;
        return held - 1;
    }

    private boolean isNoSure(int n) {
        return n < 1 || n > figures.most;
    }

    private static boolean isTooGreat(int a, int most) {
        return a > most || a < -most;
    }

    private int ratioFigure(Value value, int above) {
        long low = figures.strip(value.low);
        long rest = figures.strip(value.up);
        int inverse = figures.firstInverse(low);
        for (int i = 0; i < above; i++) {
            rest = figures.tail(rest, low, inverse);
        }
        return figures.lowest((long) figures.lowest(rest) * inverse);
    }

    private int comingRound(Value value, boolean wantsStart) {
        long low = figures.strip(value.low);
        long rest = figures.strip(value.up);
        int inverse = figures.firstInverse(low);
        // Figures come round from their first on just where the fraction is -1 .. 0.
        int start = 0;
        for (; start < LONGEST_ROUND && (rest > 0 || rest < -low); start++) {
            rest = figures.tail(rest, low, inverse);
        }
        long first = rest;
        for (int period = 1; start + period <= LONGEST_ROUND; period++) {
            rest = figures.tail(rest, low, inverse);
            if (rest == first) {
                return wantsStart ? start : period;
            }
        }
        return NONE;
    }

    private boolean copyWithin(Value value, int bound) {
        made.copy(value);
        return !isTooGreat(value.up, bound) && value.low <= bound;
    }

    /** Euclid on p^n and u: the first rest that is small enough is the only up there can be. */
    private boolean fractionWithin(Value value, int bound) {
        long mostUp = figures.shiftDown(bound, value.lift);
        long mostLow = figures.shiftDown(bound, -value.lift);
        if (mostUp < 1 || mostLow < 1) {
            return false;
        }
        long before = figures.power(value.sure), rest = value.u;
        long lowBefore = 0, low = 1;
        for (int i = 0; i < EUCLID_STEPS && rest > mostUp; i++) {
            long times = before / rest;
            long nextRest = before - times * rest;
            long nextLow = lowBefore - times * low;
            before = rest;
            rest = nextRest;
            lowBefore = low;
            low = nextLow;
        }
        if (low == 0 || Math.abs(low) > mostLow || figures.lowest(low) == 0) {
            return false;
        }
        arithmetic.setFraction(rest * figures.power(value.lift), low * figures.power(-value.lift), made);
        return true;
    }

    private boolean isGood(int f) {
        return figures.valueAt(polynomial, f, 1) == 0 && figures.slopeAt(polynomial, f, 1) != 0;
    }

    private boolean isStuck(int f) {
        return figures.valueAt(polynomial, f, 1) == 0 && figures.slopeAt(polynomial, f, 1) == 0;
    }

    private void setRoot(Value root, int n) {
        arithmetic.setFigures(0, figures.rootFrom(root.polynomial, root.first, n), n, root);
        root.kind = ROOT;
    }

    private int squareOfTwo(Value value) {
        if (value.sure < 3) {
            return LITTLE;
        }
        if (value.u % 8 != 1) {
            return NONE;
        }
        // Of 1 modulo 4 there is one: each further figure of the square settles one of the root.
        long root = 1;
        for (int n = 3; n < value.sure; n++) {
            if (((root * root - value.u) & (1L << n)) != 0) {
                root += 1L << (n - 1);
            }
        }
        made.set(NUMBER, value.lift / 2, value.sure - 1, root);
        return keep(made);
    }

    private int squareOfOdd(Value value) {
        int first = figures.firstSquareRoot(figures.lowest(value.u));
        if (first == 0) {
            return NONE;
        }
        int n = value.sure;
        long root = first;
        for (int sure = 1; sure < n; sure *= 2) {
            long over = figures.reduce(figures.product(root, root, n) - value.u, n);
            long slope = figures.reduce(2 * root, n);
            root = figures.reduce(root - figures.product(over, figures.inverse(slope, n), n), n);
        }
        made.set(NUMBER, value.lift / 2, n, root);
        return keep(made);
    }

    /** One NUMBER; of a RATIO u is its lowest K figures, and up, low tell the rest. */
    private static final class Value {
        final int[] polynomial = new int[COEFFICIENTS];
        int kind = NUMBER;
        int lift = 0;
        int sure = 0;
        long u = 0;
        int up = 0;
        int low = 1;
        int first = 0;

        void set(int newKind, int newLift, int newSure, long newU) {
            kind = newKind;
            lift = newLift;
            sure = newSure;
            u = newU;
        }

        void copy(Value from) {
            set(from.kind, from.lift, from.sure, from.u);
            up = from.up;
            low = from.low;
            first = from.first;
            System.arraycopy(from.polynomial, 0, polynomial, 0, COEFFICIENTS);
        }

        boolean isNought() {
            return kind != RATIO && sure == 0;
        }

        boolean isZero() {
            return kind == RATIO && up == 0;
        }

        boolean isBeyond() {
            return lift < -FARTHEST_LIFT || lift > FARTHEST_LIFT;
        }

        int lowestPlace() {
            return isNought() || isZero() ? WITHOUT_END : lift;
        }

        int endOfSure() {
            return kind == RATIO ? WITHOUT_END : lift + sure;
        }
    }

    /** What is made of fractions and of two NUMBERS. */
    private static final class Arithmetic {
        private final Figures figures;

        Arithmetic(Figures figures) {
            this.figures = figures;
        }

        /** The RATIO up / low, or the NUMBER of it, if its parts are too great; low is not 0. */
        void setFraction(long up, long low, Value to) {
            long divisor = low < 0 ? -commonDivisor(up, low) : commonDivisor(up, low);
            if (divisor == 0) {
                return;
            }
            long leastUp = up / divisor;
            long leastLow = low / divisor;
            boolean fits = Math.abs(leastUp) <= GREATEST_PART && leastLow <= GREATEST_PART;
            int most = figures.most;
            if (leastUp == 0) {
                to.set(RATIO, FARTHEST_LIFT, most, 0);
            } else {
                long unit = figures.reduce(figures.strip(leastUp), most);
                long inverse = figures.inverse(figures.reduce(figures.strip(leastLow), most), most);
                int lift = figures.timesIn(leastUp) - figures.timesIn(leastLow);
                to.set(fits ? RATIO : NUMBER, lift, most, figures.product(unit, inverse, most));
            }
            to.up = fits ? (int) leastUp : 0;
            to.low = fits ? (int) leastLow : 1;
        }

        /** The NUMBER of n figures from a LIFT on, which need not begin with one that is not 0. */
        void setFigures(int lift, long figuresFromLift, int n, Value to) {
            if (figuresFromLift == 0) {
                to.set(NUMBER, lift + n, 0, 0);
                return;
            }
            int noughts = figures.timesIn(figuresFromLift);
            to.set(NUMBER, lift + noughts, n - noughts, figures.strip(figuresFromLift));
        }

        /** OVER by a NOUGHT or by 0 / 1 is refused before. */
        void combine(int way, Value x, Value y, Value to) {
            if (x.kind == RATIO && y.kind == RATIO) {
                combineRatios(way, x, y, to);
            } else if (way == SUM || way == LESS) {
                add(x, y, way == LESS, to);
            } else {
                multiply(x, y, way == OVER, to);
            }
        }

        private void combineRatios(int way, Value x, Value y, Value to) {
            long upLow = (long) x.up * y.low;
            long lowUp = (long) x.low * y.up;
            long lows = (long) x.low * y.low;
            if (way == SUM) {
                setFraction(upLow + lowUp, lows, to);
            } else if (way == LESS) {
                setFraction(upLow - lowUp, lows, to);
            } else if (way == TIMES) {
                setFraction((long) x.up * y.up, lows, to);
            } else {
                setFraction(upLow, lowUp, to);
            }
        }

        private void add(Value x, Value y, boolean less, Value to) {
            int end = Math.min(x.endOfSure(), y.endOfSure());
            int start = Math.min(x.lowestPlace(), y.lowestPlace());
            if (start >= end) {
                to.set(NUMBER, end, 0, 0);
                return;
            }
            // More than K only where the LIFTS differ, and then the lowest figure is not 0.
            int n = Math.min(end - start, figures.most);
            long right = figuresFrom(y, start, n);
            long sum = figuresFrom(x, start, n) + (less ? -right : right);
            setFigures(start, figures.reduce(sum, n), n, to);
        }

        private long figuresFrom(Value x, int start, int n) {
            int shift = x.lowestPlace() - start;
            return shift >= n ? 0 : x.u % figures.power(n - shift) * figures.power(shift);
        }

        private void multiply(Value x, Value y, boolean over, Value to) {
            if (x.isZero() || y.isZero()) {
                setFraction(0, 1, to);
                return;
            }
            int n = Math.min(x.sure, y.sure);
            long left = figures.reduce(x.u, n);
            long right = figures.reduce(y.u, n);
            long u = figures.product(left, over ? figures.inverse(right, n) : right, n);
            to.set(NUMBER, over ? x.lift - y.lift : x.lift + y.lift, n, u);
        }

        private static long commonDivisor(long a, long b) {
            long greater = Math.abs(a);
            long lesser = Math.abs(b);
            for (int i = 0; i < EUCLID_STEPS && lesser != 0; i++) {
                long rest = greater % lesser;
                greater = lesser;
                lesser = rest;
            }
            return greater;
        }
    }

    /** THE PRIME, and reckoning modulo its powers up to that by K; p is never below 2. */
    private static final class Figures {
        private static final int[] PRIMES = {2, 3, 5, 7, 11, 13, 17, 19, 23, 29, 31};
        private static final int FIRST_PRIME = 5;
        private static final long HIGHEST_POWER = 1000000000000000000L;
        // No long has a prime in it more often.
        private static final int MOST_TIMES = 64;

        private final long[] powers = new long[60];
        int p = FIRST_PRIME;
        int most = 0;

        Figures() {
            choose(FIRST_PRIME);
        }

        static boolean isPrime(int p) {
            for (int prime : PRIMES) {
                if (prime == p) {
                    return true;
                }
            }
            return false;
        }

        void choose(int prime) {
            if (prime < 2) {
                return;
            }
            p = prime;
            most = 0;
            powers[0] = 1;
            for (int n = 1; n < powers.length && powers[n - 1] <= HIGHEST_POWER / prime; n++) {
                powers[n] = powers[n - 1] * prime;
                most = n;
            }
        }

        /** p^n; 1 for an n below 0. */
        long power(int n) {
            return powers[Math.max(0, Math.min(n, most))];
        }

        long reduce(long a, int n) {
            return Math.floorMod(a, power(n));
        }

        int lowest(long a) {
            return (int) Math.floorMod(a, (long) p);
        }

        /** How often p is in a, which is not 0. */
        int timesIn(long a) {
            int times = 0;
            for (long rest = a; times < MOST_TIMES && rest % p == 0; times++) {
                rest /= p;
            }
            return times;
        }

        /** What is left of a, which is not 0, without its p's. */
        long strip(long a) {
            long rest = a;
            for (int i = 0; i < MOST_TIMES && rest % p == 0; i++) {
                rest /= p;
            }
            return rest;
        }

        /** a without its lowest figures, as many as told. */
        long shiftDown(long a, int places) {
            long rest = a;
            for (int i = 0; i < places && rest != 0; i++) {
                rest /= p;
            }
            return rest;
        }

        /** a b modulo p^n, of two that are reduced: by halves, as a b itself is too long. */
        long product(long a, long b, int n) {
            int half = n / 2;
            long step = power(half);
            long aHigh = a / step, aLow = a % step;
            long bHigh = b / step, bLow = b % step;
            long middle = (aHigh * bLow + aLow * bHigh) % power(n - half);
            long top = aHigh % p * (bHigh % p) % power(n - 2 * half);
            return (aLow * bLow + middle * step + top * power(2 * half)) % power(n);
        }

        /** The inverse modulo p^n of a, whose lowest figure is not 0; the sure figures double. */
        long inverse(long a, int n) {
            long inverse = firstInverse(a);
            for (int sure = 1; sure < n; sure *= 2) {
                long off = reduce(2 - product(a, inverse, n), n);
                inverse = product(inverse, off, n);
            }
            return reduce(inverse, n);
        }

        int firstInverse(long a) {
            int first = lowest(a);
            for (int i = 1; i < p; i++) {
                if (first * i % p == 1) {
                    return i;
                }
            }
            return 0;
        }

        /** The lesser root of a square modulo p, 0 if it is none. */
        int firstSquareRoot(int first) {
            for (int i = 1; i < p; i++) {
                if (i * i % p == first) {
                    return i;
                }
            }
            return 0;
        }

        /** The up that is left of rest / low, when its lowest figure is taken away. */
        long tail(long rest, long low, int inverseOfLow) {
            int figure = lowest((long) lowest(rest) * inverseOfLow);
            return (rest - figure * low) / p;
        }

        long toThePrime(long a, int n) {
            long result = a;
            for (int i = 1; i < p; i++) {
                result = product(result, a, n);
            }
            return result;
        }

        long valueAt(int[] coefficients, long x, int n) {
            long value = 0;
            for (int i = coefficients.length - 1; i >= 0; i--) {
                value = reduce(product(value, x, n) + coefficients[i], n);
            }
            return value;
        }

        long slopeAt(int[] coefficients, long x, int n) {
            long slope = 0;
            for (int i = coefficients.length - 1; i >= 1; i--) {
                slope = reduce(product(slope, x, n) + (long) i * coefficients[i], n);
            }
            return slope;
        }

        /** Newton's steps from a GOOD first figure: the sure figures double. */
        long rootFrom(int[] coefficients, int first, int n) {
            long root = first;
            for (int sure = 1; sure < n; sure *= 2) {
                long slope = inverse(slopeAt(coefficients, root, n), n);
                long step = product(valueAt(coefficients, root, n), slope, n);
                root = reduce(root - step, n);
            }
            return root;
        }
    }
}
