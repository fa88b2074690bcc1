import java.util.ArrayList;
import java.util.List;
import java.util.function.Consumer;
import java.util.function.ToLongFunction;

/** The boundaries that the promises 1 to 24 name: the last that is let in, the first that is not, on both sides. */
public final class PromiseBoundaryTest {
    private static final Sentences S = new Sentences();
    private static final int[] PRIMES = Benches.PRIMES;
    private static final int NONE = LeftNumbers.NONE, BAD = LeftNumbers.BAD, KIND = LeftNumbers.KIND;
    private static final int FULL = LeftNumbers.FULL;
    private static final int TOP = 1000000000;
    private static final int NEXT = Benches.NEXT;
    private static final int LEAST = Integer.MIN_VALUE, GREATEST = Integer.MAX_VALUE;
    private static final int[] NO_SUCH = {-1, NEXT, 60, LEAST, GREATEST};
    private static final int[] NO_WAY = {-1, 4, LEAST, GREATEST};
    private static final int[] NO_WHAT = {-1, 2, LEAST, GREATEST};
    private static final int[] RATIOS = {Benches.RATIO, Benches.NIL};
    private static final int[] NOUGHTS = {Benches.NOUGHT, Benches.EMPTY_SHADOW, Benches.ROOT_AT_0};
    private static final int[] NO_ROOTS = {Benches.RATIO, Benches.NIL, Benches.NUMBER, Benches.NOUGHT, Benches.SHADOW,
        Benches.HIGH, Benches.LOW, Benches.EMPTY_SHADOW};

    public static void main(String[] args) {
        S.sentence("1 THE PRIME 5", PromiseBoundaryTest::newPrime);
        S.sentence("1 no NUMBERS", PromiseBoundaryTest::newNumbers);
        S.sentence("1 THE POLYNOMIAL 0", PromiseBoundaryTest::newPolynomial);
        S.sentence("2 prime: all NUMBERS go", PromiseBoundaryTest::primeNumbersGo);
        S.sentence("2 prime: THE POLYNOMIAL becomes 0", PromiseBoundaryTest::primePolynomial);
        S.sentence("2 prime: K", PromiseBoundaryTest::primeMost);
        S.sentence("2 prime: BAD", PromiseBoundaryTest::primeBad);
        S.sentence("3 ratio: BAD: low 0", PromiseBoundaryTest::ratioLow);
        S.sentence("3 ratio: BAD: one above 1000000000 in size", PromiseBoundaryTest::ratioSize);
        S.sentence("3 ratio: FULL", PromiseBoundaryTest::ratioFull);
        S.sentence("4 number: a LIFT (-60 .. 60)", PromiseBoundaryTest::numberLift);
        S.sentence("4 number: n figures (1 .. K)", PromiseBoundaryTest::numberFigures);
        S.sentence("4 number: bits (0 or above)", PromiseBoundaryTest::numberBits);
        S.sentence("4 number: which counts modulo p^n", PromiseBoundaryTest::numberModulo);
        S.sentence("4 number: LIFT is more and SURE less", PromiseBoundaryTest::numberLowestFigures);
        S.sentence("4 number: a NOUGHT of LIFT and n, if all are", PromiseBoundaryTest::numberNought);
        S.sentence("4 number: BEYOND", PromiseBoundaryTest::numberBeyond);
        S.sentence("5 shadow: n (0 .. its SURE)", PromiseBoundaryTest::shadowFigures);
        S.sentence("5 shadow: a NOUGHT of x's LIFT with 0", PromiseBoundaryTest::shadowOfNone);
        S.sentence("5 shadow: KIND: x is a NOUGHT, or 0 / 1", PromiseBoundaryTest::shadowKind);
        S.sentence("5 shadow: BAD ahead of KIND", PromiseBoundaryTest::shadowBadAhead);
        S.sentence("6 of: way 0 to 3; BAD", PromiseBoundaryTest::ofWay);
        S.sentence("6 of: ZERO", PromiseBoundaryTest::ofZero);
        S.sentence("6 of: BEYOND", PromiseBoundaryTest::ofBeyond);
        S.sentence("7 kind: BAD; and the like of x wherever it is told", PromiseBoundaryTest::noSuchNumber);
        S.sentence("7 kind", PromiseBoundaryTest::kinds);
        S.sentence("8 lift: -100: BAD", PromiseBoundaryTest::liftBad);
        S.sentence("9 sure: (K of a RATIO)", PromiseBoundaryTest::sureOfRatio);
        S.sentence("10 figure: i (-100 .. 1000)", PromiseBoundaryTest::figurePlaces);
        S.sentence("10 figure: NONE: it is not known", PromiseBoundaryTest::figureNone);
        S.sentence("11 told: u modulo p^n", PromiseBoundaryTest::toldGreatest);
        S.sentence("11 told: 0 of a NOUGHT, of 0 / 1", PromiseBoundaryTest::toldNought);
        S.sentence("11 told: -1: BAD", PromiseBoundaryTest::toldBad);
        S.sentence("12 part: what 0, 1", PromiseBoundaryTest::partWhat);
        S.sentence("12 part: 0: KIND", PromiseBoundaryTest::partKind);
        S.sentence("13 near: k (-60 .. 100)", PromiseBoundaryTest::nearBounds);
        S.sentence("14 guess: BAD: B 1 .. 1000000000", PromiseBoundaryTest::guessBounds);
        S.sentence("14 guess: KIND: a NOUGHT; then BAD: B is too great", PromiseBoundaryTest::guessOrder);
        S.sentence("14 guess: NONE", PromiseBoundaryTest::guessNone);
        S.sentence("15 round: what 0, 1", PromiseBoundaryTest::roundWhat);
        S.sentence("15 round: KIND: no RATIO, 0 / 1", PromiseBoundaryTest::roundKind);
        S.sentence("15 round: NONE: they are not told", PromiseBoundaryTest::roundNone);
        S.sentence("16 coefficient: i (0 .. 7)", PromiseBoundaryTest::coefficientPlace);
        S.sentence("16 coefficient: c becomes: what it was", PromiseBoundaryTest::coefficientBefore);
        S.sentence("16 coefficient: 2000000: BAD", PromiseBoundaryTest::coefficientBad);
        S.sentence("17 at: from the coefficient of x^7 down", PromiseBoundaryTest::atOnePower);
        S.sentence("17 at: (what is between is not kept)", PromiseBoundaryTest::atBetween);
        S.sentence("17 at: BEYOND", PromiseBoundaryTest::atBeyond);
        S.sentence("18 firsts: what 0, 1", PromiseBoundaryTest::firstsWhat);
        S.sentence("18 firsts: 2^f together", PromiseBoundaryTest::firstsTogether);
        S.sentence("19 root: BAD: f, n", PromiseBoundaryTest::rootBad);
        S.sentence("19 root: NONE: f is not GOOD", PromiseBoundaryTest::rootNone);
        S.sentence("20 more: n (1 .. K)", PromiseBoundaryTest::moreBounds);
        S.sentence("20 more: its SURE", PromiseBoundaryTest::moreSure);
        S.sentence("20 more: KIND", PromiseBoundaryTest::moreKind);
        S.sentence("21 square: the first of BAD; KIND; NONE; LITTLE; FULL", PromiseBoundaryTest::squareOrder);
        S.sentence("22 unit: BAD", PromiseBoundaryTest::unitBad);
        S.sentence("23 undo: the NUMBER that came last goes: how many are left", PromiseBoundaryTest::undoLeft);
        S.sentence("23 undo: once behind each that came", PromiseBoundaryTest::undoOnce);
        S.sentence("23 undo: each call that makes a NUMBER", PromiseBoundaryTest::undoEach);
        S.sentence("23 undo: KIND: there is nothing to undo", PromiseBoundaryTest::undoNothing);
        S.sentence("24 count: what 0 .. 3; BAD", PromiseBoundaryTest::countWhat);
        S.sentence("24 count: 2 NUMBERS", PromiseBoundaryTest::countNumbers);
        S.sentence("24 count: 3 whether undo() may be (1, 0)", PromiseBoundaryTest::countUndo);
        S.sentence("Refused: FULL ahead of BEYOND", PromiseBoundaryTest::fullAheadOfBeyond);
        S.sentence("Refused: BAD ahead of FULL", PromiseBoundaryTest::badAheadOfFull);
        S.end();
    }

    private static void newPrime() {
        LeftNumbers x = new LeftNumbers();
        S.due("count(0)", x.count(0), 5);
        S.due("count(1)", x.count(1), 25);
        x.prime(31);
        S.due("count(0) of another new one", new LeftNumbers().count(0), 5);
    }

    private static void newNumbers() {
        Benches.full(5);
        LeftNumbers x = new LeftNumbers();
        S.due("count(2)", x.count(2), 0);
        S.due("count(3)", x.count(3), 0);
        S.due("undo()", x.undo(), KIND);
        S.due("kind(0)", x.kind(0), BAD);
        S.due("ratio(1, 1)", x.ratio(1, 1), 0);
        S.due("kind(0)", x.kind(0), 1);
        S.due("kind(1)", x.kind(1), BAD);
    }

    private static void newPolynomial() {
        Benches.mixed(5);
        LeftNumbers x = new LeftNumbers();
        S.due("firsts(0)", x.firsts(0), 0);
        S.due("firsts(1)", x.firsts(1), 31);
        x.ratio(2, 1);
        S.due("at(2 / 1)", x.at(0), 1);
        S.isRatio(x, 1, 0, 1);
        for (int i = 0; i < 8; i++) {
            S.due("coefficient(" + i + ", 0)", x.coefficient(i, 0), 0);
        }
    }

    private static void primeNumbersGo() {
        LeftNumbers x = Benches.full(5);
        S.due("prime(3)", x.prime(3), 37);
        S.due("count(2)", x.count(2), 0);
        S.due("count(3)", x.count(3), 0);
        S.due("undo()", x.undo(), KIND);
        S.due("kind(0)", x.kind(0), BAD);
        for (int i = 0; i < 60; i++) {
            S.due("there is room again", x.number(0, i, 5), i);
        }
        S.due("and no more", x.number(0, 1, 5), FULL);
        S.due("the same PRIME", x.prime(3), 37);
        S.due("count(2)", x.count(2), 0);
    }

    private static void primePolynomial() {
        for (int p : new int[] {3, 5}) {
            LeftNumbers x = Benches.mixed(5);
            for (int i = 0; i < 8; i++) {
                x.coefficient(i, 7);
            }
            x.prime(p);
            for (int i = 0; i < 8; i++) {
                S.due("coefficient(" + i + ", 0)", x.coefficient(i, 0), 0);
            }
        }
    }

    private static void primeMost() {
        int[] most = {59, 37, 25, 21, 17, 16, 14, 14, 13, 12, 12};
        for (int i = 0; i < PRIMES.length; i++) {
            LeftNumbers x = new LeftNumbers();
            S.due("prime(" + PRIMES[i] + ")", x.prime(PRIMES[i]), most[i]);
            S.due("count(0)", x.count(0), PRIMES[i]);
            S.due("count(1)", x.count(1), most[i]);
        }
    }

    private static void primeBad() {
        for (int p : new int[] {LEAST, -31, -2, -1, 0, 1, 4, 9, 15, 21, 25, 27, 28, 30, 32, 33, 35, 37, 41, GREATEST}) {
            S.refused(5, "prime(" + p + ")", x -> x.prime(p), BAD);
            S.refused(31, "prime(" + p + ")", x -> x.prime(p), BAD);
        }
    }

    private static void ratioLow() {
        for (int up : new int[] {-TOP, -1, 0, 1, TOP}) {
            S.refused(5, "ratio(" + up + ", 0)", x -> x.ratio(up, 0), BAD);
        }
        LeftNumbers x = Benches.empty(5);
        S.due("ratio(1, 1)", x.ratio(1, 1), 0);
        S.due("ratio(1, -1)", x.ratio(1, -1), 1);
        S.isRatio(x, 1, -1, 1);
    }

    private static void ratioSize() {
        LeftNumbers x = Benches.empty(3);
        int[] within = {TOP, -TOP};
        for (int a : within) {
            S.isRatio(x, x.ratio(a, 1), a, 1);
            S.isRatio(x, x.ratio(1, a), a < 0 ? -1 : 1, TOP);
            for (int b : within) {
                S.isRatio(x, x.ratio(a, b), a == b ? 1 : -1, 1);
            }
        }
        for (int a : new int[] {TOP + 1, -TOP - 1, LEAST, GREATEST}) {
            S.refused(3, "ratio(" + a + ", 1)", y -> y.ratio(a, 1), BAD);
            S.refused(3, "ratio(1, " + a + ")", y -> y.ratio(1, a), BAD);
            S.refused(3, "ratio(" + a + ", " + a + ")", y -> y.ratio(a, a), BAD);
            S.refused(3, "ratio(0, " + a + ")", y -> y.ratio(0, a), BAD);
        }
    }

    private static void ratioFull() {
        S.fillsTheLastPlace(5, "ratio(0, 1)", x -> x.ratio(0, 1));
        S.fillsTheLastPlace(2, "ratio(10^9, 10^9)", x -> x.ratio(TOP, TOP));
    }

    private static void numberLift() {
        for (int lift : new int[] {-60, -59, 0, 59, 60}) {
            LeftNumbers x = Benches.empty(5);
            S.due("number(" + lift + ", 7, 2)", x.number(lift, 7, 2), 0);
            S.tells(x, 0, 0, lift, 2, 7);
        }
        for (int lift : new int[] {-61, 61, LEAST, GREATEST}) {
            S.refused(5, "number(" + lift + ", 7, 2)", x -> x.number(lift, 7, 2), BAD);
            S.refused(5, "number(" + lift + ", 0, 2)", x -> x.number(lift, 0, 2), BAD);
        }
    }

    private static void numberFigures() {
        for (int prime : PRIMES) {
            int p = prime, most = new LeftNumbers().prime(p);
            for (int n : new int[] {1, 2, most - 1, most}) {
                LeftNumbers x = Benches.empty(p);
                S.due("number(0, p^n - 1, " + n + ")", x.number(0, Sentences.power(p, n) - 1, n), 0);
                S.tells(x, 0, 0, 0, n, Sentences.power(p, n) - 1);
            }
            for (int n : new int[] {0, -1, most + 1, LEAST, GREATEST}) {
                S.refused(p, "number(0, 1, " + n + ")", x -> x.number(0, 1, n), BAD);
            }
        }
    }

    private static void numberBits() {
        LeftNumbers x = Benches.empty(7);
        S.due("number(0, 0, 1)", x.number(0, 0, 1), 0);
        S.due("number(0, 1, 1)", x.number(0, 1, 1), 1);
        S.due("number(0, 2^63 - 1, 21)", x.number(0, Long.MAX_VALUE, 21), 2);
        for (long bits : new long[] {-1, -7, -8, Long.MIN_VALUE}) {
            S.refused(7, "number(0, " + bits + ", 1)", y -> y.number(0, bits, 1), BAD);
            S.refused(7, "number(0, " + bits + ", 21)", y -> y.number(0, bits, 21), BAD);
        }
    }

    private static void numberModulo() {
        for (int p : PRIMES) {
            LeftNumbers x = Benches.empty(p);
            int most = x.count(1);
            for (int n : new int[] {1, 3, most}) {
                long power = Sentences.power(p, n);
                S.tells(x, x.number(-5, power - 1, n), 0, -5, n, power - 1);
                S.tells(x, x.number(-5, power, n), 0, n - 5, 0, 0);
                S.tells(x, x.number(-5, power + 1, n), 0, -5, n, 1);
                S.tells(x, x.number(-5, 2 * power - 1, n), 0, -5, n, power - 1);
            }
            // 2^63 - 1 is 7^2 73 127 337 92737 649657.
            long rest = Long.MAX_VALUE % Sentences.power(p, most);
            int noughts = p == 7 ? 2 : 0;
            S.tells(x, x.number(0, Long.MAX_VALUE, most), 0, noughts, most - noughts, p == 7 ? rest / 49 : rest);
        }
    }

    private static void numberLowestFigures() {
        for (int p : PRIMES) {
            LeftNumbers x = Benches.empty(p);
            for (int noughts = 0; noughts < 4; noughts++) {
                int i = x.number(-3, Sentences.power(p, noughts), 4);
                S.tells(x, i, 0, noughts - 3, 4 - noughts, 1);
                int j = x.number(-3, Sentences.power(p, 4) - Sentences.power(p, noughts), 4);
                S.tells(x, j, 0, noughts - 3, 4 - noughts, Sentences.power(p, 4 - noughts) - 1);
            }
        }
    }

    private static void numberNought() {
        for (int p : PRIMES) {
            LeftNumbers x = Benches.empty(p);
            int most = x.count(1);
            S.tells(x, x.number(-60, 0, 1), 0, -59, 0, 0);
            S.tells(x, x.number(0, 0, most), 0, most, 0, 0);
            S.tells(x, x.number(59, 0, 1), 0, 60, 0, 0);
            S.tells(x, x.number(60 - most, 0, most), 0, 60, 0, 0);
            S.tells(x, x.number(2, Sentences.power(p, 3), 3), 0, 5, 0, 0);
        }
    }

    private static void numberBeyond() {
        for (int prime : PRIMES) {
            int p = prime, most = new LeftNumbers().prime(p);
            S.beyond(p, "number(60, 0, 1)", x -> x.number(60, 0, 1));
            S.beyond(p, "number(60, p, 2)", x -> x.number(60, p, 2));
            S.beyond(p, "number(59, p p, 3)", x -> x.number(59, (long) p * p, 3));
            S.beyond(p, "number(61 - K, 0, K)", x -> x.number(61 - most, 0, most));
            LeftNumbers x = Benches.empty(p);
            S.tells(x, x.number(60, 1, 2), 0, 60, 2, 1);
            S.tells(x, x.number(59, p, 3), 0, 60, 2, 1);
            S.tells(x, x.number(60, Sentences.power(p, most - 1) + 1, most), 0, 60, most,
                Sentences.power(p, most - 1) + 1);
        }
    }

    private static void shadowFigures() {
        int[] numbers = {Benches.RATIO, Benches.NUMBER, Benches.ROOT, Benches.SHADOW, Benches.HIGH, Benches.LOW};
        int[] sures = {25, 4, 5, 6, 5, 5};
        for (int k = 0; k < numbers.length; k++) {
            int i = numbers[k], n = sures[k];
            LeftNumbers x = Benches.mixed(5);
            long told = x.told(i);
            S.tells(x, x.shadow(i, n), 3, x.lift(i), n, told);
            S.tells(x, x.shadow(i, n - 1), 3, x.lift(i), n - 1, told % Sentences.power(5, n - 1));
            S.tells(x, x.shadow(i, 1), 3, x.lift(i), 1, told % 5);
            S.tells(x, x.shadow(i, 0), 3, x.lift(i), 0, 0);
            for (int no : new int[] {n + 1, -1, LEAST, GREATEST}) {
                S.refused(5, "shadow(" + i + ", " + no + ")", y -> y.shadow(i, no), BAD);
            }
        }
    }

    private static void shadowOfNone() {
        LeftNumbers x = Benches.mixed(5, y -> y.ratio(2, 75));
        S.tells(x, x.shadow(Benches.HIGH, 0), 3, 60, 0, 0);
        S.tells(x, x.shadow(Benches.LOW, 0), 3, -60, 0, 0);
        S.tells(x, x.shadow(NEXT, 0), 3, -2, 0, 0);
        S.fillsTheLastPlace(5, "shadow(HIGH, 0)", y -> y.shadow(Benches.HIGH, 0));
    }

    private static void shadowKind() {
        for (int nought : NOUGHTS) {
            S.refused(5, "shadow of NOUGHT " + nought, x -> x.shadow(nought, 0), KIND);
        }
        S.refused(5, "shadow(0 / 1, 0)", x -> x.shadow(Benches.NIL, 0), KIND);
        S.refused(5, "shadow(0 / 1, K)", x -> x.shadow(Benches.NIL, 25), KIND);
    }

    private static void shadowBadAhead() {
        for (int nought : NOUGHTS) {
            S.refused(5, "shadow(" + nought + ", 1)", x -> x.shadow(nought, 1), BAD);
            S.refused(5, "shadow(" + nought + ", -1)", x -> x.shadow(nought, -1), BAD);
        }
        S.refused(5, "shadow(0 / 1, K + 1)", x -> x.shadow(Benches.NIL, 26), BAD);
        S.refused(5, "shadow(0 / 1, -1)", x -> x.shadow(Benches.NIL, -1), BAD);
    }

    private static void ofWay() {
        LeftNumbers x = Benches.empty(5);
        x.ratio(3, 1);
        x.ratio(2, 1);
        int[][] made = {{5, 1}, {1, 1}, {6, 1}, {3, 2}};
        for (int way = 0; way < 4; way++) {
            S.isRatio(x, x.of(way, 0, 1), made[way][0], made[way][1]);
        }
        for (int way : NO_WAY) {
            S.refused(5, "of(" + way + ")", y -> y.of(way, Benches.NUMBER, Benches.NUMBER), BAD);
            S.refused(5, "of(" + way + ") by 0 / 1", y -> y.of(way, Benches.NUMBER, Benches.NIL), BAD);
        }
    }

    private static void ofZero() {
        int[] by = {Benches.NIL, Benches.NOUGHT, Benches.EMPTY_SHADOW, Benches.ROOT_AT_0};
        for (int y : by) {
            for (int x = 0; x < NEXT; x++) {
                int of = x;
                S.refused(5, "of(3, " + x + ", " + y + ")", z -> z.of(3, of, y), LeftNumbers.ZERO);
            }
            for (int no : new int[] {-1, 60}) {
                S.refused(5, "of(3, " + no + ", " + y + ")", z -> z.of(3, no, y), BAD);
            }
        }
    }

    private static void ofBeyond() {
        S.beyond(5, "HIGH TIMES HIGH", x -> x.of(2, Benches.HIGH, Benches.HIGH));
        S.beyond(5, "LOW TIMES LOW", x -> x.of(2, Benches.LOW, Benches.LOW));
        S.beyond(5, "HIGH OVER LOW", x -> x.of(3, Benches.HIGH, Benches.LOW));
        S.beyond(5, "LOW OVER HIGH", x -> x.of(3, Benches.LOW, Benches.HIGH));
        S.beyond(5, "HIGH LESS HIGH", x -> x.of(1, Benches.HIGH, Benches.HIGH));
        LeftNumbers x = Benches.mixed(5);
        S.tells(x, x.of(2, Benches.HIGH, Benches.LOW), 0, 0, 5, 1);
        S.tells(x, x.of(3, Benches.HIGH, Benches.HIGH), 0, 0, 5, 1);
        S.tells(x, x.of(1, Benches.LOW, Benches.LOW), 0, -55, 0, 0);
        S.tells(x, x.of(0, Benches.HIGH, Benches.LOW), 0, -60, 5, 1);
    }

    /** Each call with an x that is not there, the other arguments being right. */
    private static void noSuchNumber() {
        for (int x : NO_SUCH) {
            boolean isOfFull = x == NEXT;
            noSuch("kind", x, isOfFull, b -> b.kind(x), BAD);
            noSuch("lift", x, isOfFull, b -> b.lift(x), -100);
            noSuch("sure", x, isOfFull, b -> b.sure(x), BAD);
            noSuch("figure", x, isOfFull, b -> b.figure(x, 0), BAD);
            noSuch("told", x, isOfFull, b -> b.told(x), -1);
            noSuch("part", x, isOfFull, b -> b.part(x, 1), 0);
            noSuch("near", x, isOfFull, b -> b.near(x, 0, 0), BAD);
            noSuch("near", x, isOfFull, b -> b.near(0, x, 0), BAD);
            noSuch("round", x, isOfFull, b -> b.round(x, 0), BAD);
            noSuch("more", x, isOfFull, b -> b.more(x, 1), BAD);
            noSuch("shadow", x, isOfFull, b -> b.shadow(x, 0), BAD);
            noSuch("guess", x, isOfFull, b -> b.guess(x, 1), BAD);
            noSuch("at", x, isOfFull, b -> b.at(x), BAD);
            noSuch("square", x, isOfFull, b -> b.square(x), BAD);
            for (int way = 0; way < 4; way++) {
                int w = way;
                noSuch("of " + w, x, isOfFull, b -> b.of(w, x, 0), BAD);
                noSuch("of " + w, x, isOfFull, b -> b.of(w, 0, x), BAD);
            }
        }
    }

    /** Where the next one comes is no such NUMBER, but of a full bench it is one. */
    private static void noSuch(String name, int x, boolean isOfFull, ToLongFunction<LeftNumbers> doing, long answer) {
        String call = name + " of " + x;
        S.changesNothing(() -> Benches.mixed(5), call, doing, answer);
        S.changesNothing(() -> Benches.undone(5, b -> { }), call + ", one that went", doing, answer);
        S.changesNothing(() -> Benches.empty(5), call + ", an empty bench", b -> doing.applyAsLong(b), answer);
        if (!isOfFull) {
            S.changesNothing(() -> Benches.full(5), call + ", a full bench", doing, answer);
        }
    }

    private static void kinds() {
        LeftNumbers x = Benches.mixed(5);
        int[] kinds = {1, 1, 0, 0, 2, 3, 0, 0, 3, 2};
        for (int i = 0; i < kinds.length; i++) {
            S.due("kind(" + i + ")", x.kind(i), kinds[i]);
        }
        S.due("kind of a SUM", x.kind(x.of(0, Benches.ROOT, Benches.SHADOW)), 0);
        S.due("kind of a UNIT", x.kind(x.unit(1)), 0);
        S.due("kind of a GUESS", x.kind(x.guess(Benches.SHADOW, 41)), 1);
        S.due("kind of a SQUARE ROOT", x.kind(x.square(Benches.NUMBER)), 0);
        S.due("kind of THE POLYNOMIAL at a RATIO", x.kind(x.at(Benches.RATIO)), 1);
        S.due("kind of THE POLYNOMIAL at a ROOT", x.kind(x.at(Benches.ROOT)), 0);
    }

    private static void liftBad() {
        LeftNumbers x = Benches.mixed(5);
        int[] lifts = {0, 60, 0, 4, 0, 0, 60, -60, 0, 3};
        for (int i = 0; i < lifts.length; i++) {
            S.due("lift(" + i + ")", x.lift(i), lifts[i]);
        }
        for (int i : NO_SUCH) {
            S.due("lift(" + i + ")", x.lift(i), -100);
        }
        S.due("lift(0) of an empty bench", Benches.empty(5).lift(0), -100);
    }

    private static void sureOfRatio() {
        for (int p : PRIMES) {
            LeftNumbers x = Benches.mixed(p);
            int most = x.count(1);
            int[] sures = {most, most, 4, 0, 5, 6, 5, 5, 0, 0};
            for (int i = 0; i < sures.length; i++) {
                S.due("sure(" + i + ")", x.sure(i), sures[i]);
            }
            for (int i : NO_SUCH) {
                S.due("sure(" + i + ")", x.sure(i), BAD);
            }
        }
    }

    private static void figurePlaces() {
        LeftNumbers x = Benches.mixed(5, y -> y.ratio(-1, 1));
        S.due("figure(-1 / 1, 1000)", x.figure(NEXT, 1000), 4);
        S.due("figure(-1 / 1, -100)", x.figure(NEXT, -100), 0);
        S.due("figure(NUMBER, 1000)", x.figure(Benches.NUMBER, 1000), NONE);
        S.due("figure(NUMBER, -100)", x.figure(Benches.NUMBER, -100), 0);
        for (int i = 0; i < NEXT; i++) {
            int number = i;
            for (int no : new int[] {-101, 1001, LEAST, GREATEST}) {
                S.refused(5, "figure(" + i + ", " + no + ")", y -> y.figure(number, no), BAD);
            }
        }
    }

    private static void figureNone() {
        int[] numbers = {Benches.NUMBER, Benches.NOUGHT, Benches.ROOT, Benches.SHADOW, Benches.HIGH, Benches.LOW,
            Benches.EMPTY_SHADOW, Benches.ROOT_AT_0};
        int[] ends = {4, 4, 5, 6, 65, -55, 0, 3};
        for (int k = 0; k < numbers.length; k++) {
            int i = numbers[k], end = ends[k];
            S.due("the last that is known", Benches.mixed(5).figure(i, end - 1) == NONE ? 1 : 0, 0);
            S.refused(5, "figure(" + i + ", " + end + ")", x -> x.figure(i, end), NONE);
        }
    }

    private static void toldGreatest() {
        for (int p : PRIMES) {
            LeftNumbers x = Benches.empty(p);
            int most = x.count(1);
            long power = Sentences.power(p, most);
            x.ratio(-1, 1);
            S.due("told of -1", x.told(0), power - 1);
            x.shadow(0, 1);
            S.due("told of its lowest figure", x.told(1), p - 1);
            x.number(0, power - 1, most);
            S.due("told of p^K - 1", x.told(2), power - 1);
            x.ratio(TOP, 999999937);
            S.due("told of 10^9 / 999999937", x.told(3), Sentences.unit(p, TOP, 999999937, most));
            x.ratio(-999999937, TOP);
            S.due("told of -999999937 / 10^9", x.told(4), Sentences.unit(p, -999999937, TOP, most));
        }
    }

    private static void toldNought() {
        LeftNumbers x = Benches.mixed(5);
        for (int i : NOUGHTS) {
            S.due("told of NOUGHT " + i, x.told(i), 0);
        }
        S.due("told of 0 / 1", x.told(Benches.NIL), 0);
    }

    private static void toldBad() {
        LeftNumbers x = Benches.mixed(5);
        for (int i : NO_SUCH) {
            S.due("told(" + i + ")", x.told(i), -1);
        }
        S.due("told(0) of an empty bench", Benches.empty(5).told(0), -1);
        S.due("told(59) of a full one", Benches.full(5).told(59), 59);
        S.due("told(60) of a full one", Benches.full(5).told(60), -1);
    }

    private static void partWhat() {
        LeftNumbers x = Benches.mixed(5);
        S.due("part(RATIO, 0)", x.part(Benches.RATIO, 0), 37);
        S.due("part(RATIO, 1)", x.part(Benches.RATIO, 1), 41);
        S.due("part(0 / 1, 0)", x.part(Benches.NIL, 0), 0);
        S.due("part(0 / 1, 1)", x.part(Benches.NIL, 1), 1);
        for (int what : NO_WHAT) {
            for (int i : RATIOS) {
                S.refused(5, "part(" + i + ", " + what + ")", y -> y.part(i, what), 0);
            }
        }
    }

    private static void partKind() {
        for (int i = Benches.NUMBER; i < NEXT; i++) {
            int number = i;
            S.refused(5, "part(" + i + ", 0)", x -> x.part(number, 0), 0);
            S.refused(5, "part(" + i + ", 1)", x -> x.part(number, 1), 0);
        }
        // A place that held a RATIO tells nothing of it when a NUMBER comes there.
        LeftNumbers x = Benches.empty(5);
        x.ratio(7, 9);
        x.undo();
        x.number(0, 3, 2);
        S.due("part(0, 0)", x.part(0, 0), 0);
        S.due("part(0, 1)", x.part(0, 1), 0);
    }

    private static void nearBounds() {
        LeftNumbers x = Benches.mixed(5);
        S.due("near(RATIO, RATIO, 100)", x.near(Benches.RATIO, Benches.RATIO, 100), 1);
        S.due("near(RATIO, NIL, 100)", x.near(Benches.RATIO, Benches.NIL, 100), 0);
        S.due("near(NUMBER, NUMBER, 100)", x.near(Benches.NUMBER, Benches.NUMBER, 100), 2);
        S.due("near(LOW, RATIO, -60)", x.near(Benches.LOW, Benches.RATIO, -60), 1);
        S.due("near(LOW, RATIO, -59)", x.near(Benches.LOW, Benches.RATIO, -59), 0);
        for (int k : new int[] {-61, 101, LEAST, GREATEST}) {
            S.refused(5, "near(RATIO, RATIO, " + k + ")", y -> y.near(Benches.RATIO, Benches.RATIO, k), BAD);
            S.refused(5, "near(LOW, HIGH, " + k + ")", y -> y.near(Benches.LOW, Benches.HIGH, k), BAD);
            S.refused(5, "near(NOUGHT, NIL, " + k + ")", y -> y.near(Benches.NOUGHT, Benches.NIL, k), BAD);
        }
        for (int k : new int[] {-60, 0, 100}) {
            int answer = k == 100 ? 2 : 1;
            S.refused(5, "near makes no NUMBER", y -> y.near(Benches.NOUGHT, Benches.NIL, k), answer);
        }
    }

    private static void guessBounds() {
        LeftNumbers x = Benches.empty(3);
        x.number(0, 1, 37);
        S.due("guess by 1", x.guess(0, 1), 1);
        S.isRatio(x, 1, 1, 1);
        for (int bound : new int[] {0, -1, TOP + 1, LEAST, GREATEST}) {
            for (int i = 0; i < NEXT; i++) {
                int number = i;
                S.refused(3, "guess(" + i + ", " + bound + ")", y -> y.guess(number, bound), BAD);
            }
        }
        // 10^9 itself is within its bounds: of a NOUGHT it is not the bound that is told.
        S.refused(3, "guess(NOUGHT, 10^9)", y -> y.guess(Benches.NOUGHT, TOP), KIND);
        S.refused(3, "guess(NOUGHT, 10^9 + 1)", y -> y.guess(Benches.NOUGHT, TOP + 1), BAD);
        S.refused(3, "guess(NOUGHT, 1)", y -> y.guess(Benches.NOUGHT, 1), KIND);
        S.refused(3, "guess(NOUGHT, 0)", y -> y.guess(Benches.NOUGHT, 0), BAD);
    }

    private static void guessOrder() {
        for (int nought : NOUGHTS) {
            S.refused(5, "guess(" + nought + ", 10^9)", x -> x.guess(nought, TOP), KIND);
            S.refused(5, "guess(" + nought + ", -1)", x -> x.guess(nought, -1), BAD);
        }
        // 37 / 41 is above 18; 5^4 is 625, and 2 17 17 is 578, 2 18 18 is 648.
        Consumer<LeftNumbers> four = x -> x.shadow(Benches.RATIO, 4);
        S.refused(5, four, "too great, and none", x -> x.guess(NEXT, 18), BAD);
        S.refused(5, x -> x.number(0, 619, 4), "none", x -> x.guess(NEXT, 2), NONE);
        S.refused(5, "RATIO, too great", x -> x.guess(Benches.RATIO, TOP), BAD);
    }

    private static void guessNone() {
        // 7 is of no up, low up to 2 modulo 25: 0, 1, 2, 12, 13, 23, 24 are all there are.
        Consumer<LeftNumbers> seven = x -> x.number(0, 7, 2);
        S.refused(5, seven, "7 modulo 25 by 2", x -> x.guess(NEXT, 2), NONE);
        S.refused(5, seven, "7 modulo 25 by 4", x -> x.guess(NEXT, 4), BAD);
        LeftNumbers x = Benches.mixed(5, seven);
        S.due("7 modulo 25 by 3", x.guess(NEXT, 3), NONE);
        for (int u : new int[] {1, 2, 12, 13, 23, 24}) {
            LeftNumbers y = Benches.empty(5);
            y.number(0, u, 2);
            S.due(u + " modulo 25 by 2", y.guess(0, 2), 1);
        }
        S.refused(5, "RATIO by 1", y -> y.guess(Benches.RATIO, 1), NONE);
    }

    private static void roundWhat() {
        LeftNumbers x = Benches.mixed(5, y -> y.ratio(1, 7));
        S.due("round(1 / 7, 0)", x.round(NEXT, 0), 1);
        S.due("round(1 / 7, 1)", x.round(NEXT, 1), 6);
        for (int what : NO_WHAT) {
            for (int i = 0; i < NEXT; i++) {
                int number = i;
                S.refused(5, "round(" + i + ", " + what + ")", y -> y.round(number, what), BAD);
            }
        }
    }

    private static void roundKind() {
        for (int what = 0; what < 2; what++) {
            int w = what;
            for (int i = Benches.NIL; i < NEXT; i++) {
                int number = i;
                S.refused(5, "round(" + i + ", " + w + ")", y -> y.round(number, w), KIND);
            }
        }
    }

    private static void roundNone() {
        for (int what = 0; what < 2; what++) {
            int w = what;
            S.refused(5, x -> x.ratio(-1, 8201), "of 2001 figures", x -> x.round(NEXT, w), NONE);
            S.refused(2, x -> x.ratio(1, 999999937), "of many", x -> x.round(NEXT, w), NONE);
        }
        LeftNumbers x = Benches.empty(31);
        x.ratio(-1, 4001);
        S.due("of 2000 figures", x.round(0, 1), 2000);
        S.due("of 2000 figures", x.round(0, 0), 0);
    }

    private static void coefficientPlace() {
        for (int i : new int[] {-1, 8, LEAST, GREATEST}) {
            S.refused(5, "coefficient(" + i + ", 0)", x -> x.coefficient(i, 0), 2000000);
            S.refused(5, "coefficient(" + i + ", 1)", x -> x.coefficient(i, 1), 2000000);
        }
        LeftNumbers x = Benches.empty(5);
        S.due("coefficient(0, 3)", x.coefficient(0, 3), 0);
        S.due("coefficient(7, 4)", x.coefficient(7, 4), 0);
        S.due("coefficient(0, 3)", x.coefficient(0, 3), 3);
        S.due("coefficient(7, 4)", x.coefficient(7, 4), 4);
    }

    private static void coefficientBefore() {
        LeftNumbers x = Benches.full(5);
        for (int i = 3; i < 8; i++) {
            S.due("at first", x.coefficient(i, -1000000), 0);
            S.due("the least", x.coefficient(i, 1000000), -1000000);
            S.due("the greatest", x.coefficient(i, 0), 1000000);
            S.due("0", x.coefficient(i, 0), 0);
        }
        S.due("no NUMBER comes", x.count(2), 60);
        S.due("it is nothing to undo", x.undo(), 59);
    }

    private static void coefficientBad() {
        for (int c : new int[] {-1000001, 1000001, 2000000, LEAST, GREATEST}) {
            for (int i = 0; i < 8; i++) {
                int place = i;
                S.refused(5, "coefficient(" + i + ", " + c + ")", x -> x.coefficient(place, c), 2000000);
            }
            S.refused(5, "coefficient(8, " + c + ")", x -> x.coefficient(8, c), 2000000);
        }
    }

    private static void atOnePower() {
        for (int i = 0; i < 8; i++) {
            LeftNumbers x = Benches.empty(5);
            x.coefficient(i, 1000000);
            x.ratio(1, 2);
            S.isRatio(x, x.at(0), 1000000 >> Math.min(i, 6), i == 7 ? 2 : 1);
            x.coefficient(i, -3);
            x.ratio(-1, 1);
            S.isRatio(x, x.at(2), i % 2 == 0 ? -3 : 3, 1);
            x.ratio(0, 1);
            S.isRatio(x, x.at(4), i == 0 ? -3 : 0, 1);
        }
    }

    private static void atBetween() {
        LeftNumbers x = Benches.mixed(5);
        S.due("at(NUMBER)", x.at(Benches.NUMBER), NEXT);
        S.due("one came", x.count(2), NEXT + 1);
        S.due("and goes", x.undo(), NEXT);
        S.fillsTheLastPlace(5, "at(NOUGHT)", y -> y.at(Benches.NOUGHT));
        // 10^6 x^7 at 1000 is 10^27: the TIMES behind the first is too great for a RATIO, all that follow too.
        x = Benches.empty(3);
        x.coefficient(7, 1000000);
        x.ratio(1000, 1);
        S.due("at(1000)", x.at(0), 1);
        S.due("its kind", x.kind(1), 0);
        S.due("its lift", x.lift(1), 0);
        S.due("its sure", x.sure(1), 37);
        // The same at 1 / 1000: the way down is through 1000, 1, 1 / 1000 and on to 10^-15.
        x.ratio(1, 1000);
        S.due("at(1 / 1000)", x.at(2), 3);
        S.due("its kind", x.kind(3), 0);
        x.coefficient(7, 0);
        x.coefficient(5, 1000000);
        S.due("at(1 / 1000)", x.at(2), 4);
        S.isRatio(x, 4, 1, TOP);
    }

    private static void atBeyond() {
        Consumer<LeftNumbers> linear = x -> {
            x.coefficient(2, 0);
            x.coefficient(1, 1);
            x.coefficient(0, 0);
        };
        LeftNumbers x = Benches.mixed(5, linear);
        S.tells(x, x.at(Benches.LOW), 0, -60, 5, 1);
        Consumer<LeftNumbers> square = y -> {
            y.coefficient(1, 0);
            y.number(30, 1, 2);
            y.number(-30, 1, 2);
            y.number(31, 1, 2);
            y.number(-31, 1, 2);
        };
        x = Benches.mixed(5, square);
        S.tells(x, x.at(NEXT), 0, 60, 2, 1);
        S.tells(x, x.at(NEXT + 1), 0, -60, 2, 1);
        S.beyond(5, square, "at(p^31)", y -> y.at(NEXT + 2));
        S.beyond(5, square, "at(p^-31)", y -> y.at(NEXT + 3));
        S.beyond(5, square, "at(p^60)", y -> y.at(Benches.HIGH));
        S.beyond(5, square, "at(p^-60)", y -> y.at(Benches.LOW));
        x = Benches.mixed(2, lessItself(50));
        S.tells(x, x.at(NEXT), 0, 60, 0, 0);
        S.beyond(2, lessItself(51), "at(2^10) of SURE 51", y -> y.at(NEXT));
    }

    /** 2^10, and x - 2^10, which is 0 at it as far as it is known: a NOUGHT of LIFT 10 + n. */
    private static Consumer<LeftNumbers> lessItself(int n) {
        return x -> {
            x.coefficient(2, 0);
            x.coefficient(1, 1);
            x.coefficient(0, -1024);
            x.number(10, 1, n);
        };
    }

    private static void firstsWhat() {
        S.refused(5, "firsts(0)", x -> x.firsts(0), 3);
        S.refused(5, "firsts(1)", x -> x.firsts(1), 0);
        for (int what : NO_WHAT) {
            S.refused(5, "firsts(" + what + ")", x -> x.firsts(what), BAD);
        }
    }

    private static void firstsTogether() {
        for (int p : PRIMES) {
            LeftNumbers x = Benches.empty(p);
            S.due("all", x.firsts(1), (int) ((1L << p) - 1));
            x.coefficient(1, -1);
            S.due("the lowest alone", x.firsts(0), 1);
            x.coefficient(0, -1);
            S.due("the highest alone", x.firsts(0), 1 << (p - 1));
            x.coefficient(0, 0);
            x.coefficient(2, -1);
            S.due("the lowest and the highest", x.firsts(0), 1 + (1 << (p - 1)));
            S.due("and none else", x.firsts(1), 0);
        }
    }

    private static void rootBad() {
        for (int prime : PRIMES) {
            int p = prime, most = new LeftNumbers().prime(p);
            for (int f : new int[] {-1, p, LEAST, GREATEST}) {
                S.refused(p, "root(" + f + ", 1)", x -> x.root(f, 1), BAD);
            }
            for (int n : new int[] {0, -1, most + 1, LEAST, GREATEST}) {
                S.refused(p, "root(0, " + n + ")", x -> x.root(0, n), BAD);
            }
        }
        S.refused(5, "root(2, 26), not GOOD too", x -> x.root(2, 26), BAD);
        S.refused(5, "root(2, 0), not GOOD too", x -> x.root(2, 0), BAD);
    }

    private static void rootNone() {
        for (int f = 2; f < 5; f++) {
            int first = f;
            S.refused(5, "root(" + f + ", 1)", x -> x.root(first, 1), NONE);
            S.refused(5, "root(" + f + ", 25)", x -> x.root(first, 25), NONE);
        }
        Consumer<LeftNumbers> stuck = x -> x.coefficient(1, 0);
        S.refused(5, stuck, "root of what is STUCK", x -> x.root(0, 1), NONE);
        S.refused(5, stuck, "root of what is no root", x -> x.root(1, 1), NONE);
        Consumer<LeftNumbers> nil = x -> x.coefficient(2, 0);
        S.refused(5, nil.andThen(stuck), "root of 0", x -> x.root(0, 1), NONE);
        S.fillsTheLastPlace(5, "root(1, 25)", x -> x.root(1, 25));
    }

    private static void moreBounds() {
        for (int prime : PRIMES) {
            int p = prime;
            LeftNumbers x = Benches.full(p);
            int most = x.count(1);
            S.due("more(ROOT, K)", x.more(Benches.ROOT, most), most);
            S.tells(x, Benches.ROOT, 2, 0, most, 1 + p);
            S.due("more(ROOT, 1)", x.more(Benches.ROOT, 1), 1);
            S.tells(x, Benches.ROOT, 2, 0, 1, 1);
            S.due("more(ROOT, 2)", x.more(Benches.ROOT, 2), 2);
            S.tells(x, Benches.ROOT, 2, 0, 2, 1 + p);
            for (int n : new int[] {0, -1, most + 1, LEAST, GREATEST}) {
                S.refused(p, "more(ROOT, " + n + ")", y -> y.more(Benches.ROOT, n), BAD);
                S.refused(p, "more(NUMBER, " + n + ")", y -> y.more(Benches.NUMBER, n), BAD);
            }
        }
    }

    private static void moreSure() {
        LeftNumbers x = Benches.empty(5);
        x.coefficient(1, 1);
        x.coefficient(0, -25);
        x.root(0, 1);
        int[] sures = {0, 0, 1, 2};
        int[] lifts = {1, 2, 2, 2};
        for (int n = 1; n < 5; n++) {
            S.due("more(0, " + n + ")", x.more(0, n), sures[n - 1]);
            S.tells(x, 0, 2, lifts[n - 1], sures[n - 1], n < 3 ? 0 : 1);
        }
        S.due("more(0, 25)", x.more(0, 25), 23);
        S.due("more(0, 1)", x.more(0, 1), 0);
        S.tells(x, 0, 2, 1, 0, 0);
        S.due("no NUMBER comes", x.count(2), 1);
        S.due("it is nothing to undo of its own", x.undo(), 0);
        S.due("nor twice", x.undo(), KIND);
    }

    private static void moreKind() {
        for (int i : NO_ROOTS) {
            S.refused(5, "more(" + i + ", 1)", x -> x.more(i, 1), KIND);
            S.refused(5, "more(" + i + ", 25)", x -> x.more(i, 25), KIND);
        }
        S.refused(5, x -> x.shadow(Benches.ROOT, 5), "more of a ROOT's SHADOW", x -> x.more(NEXT, 1), KIND);
    }

    private static void squareOrder() {
        for (int p : new int[] {2, 5}) {
            S.refused(p, "BAD", x -> x.square(60), BAD);
            for (int nought : NOUGHTS) {
                S.refused(p, "KIND", x -> x.square(nought), KIND);
            }
            S.refused(p, "KIND", x -> x.square(Benches.NIL), KIND);
            S.refused(p, x -> x.number(3, 0, 2), "a NOUGHT of an odd LIFT", x -> x.square(NEXT), KIND);
            S.refused(p, x -> x.number(3, 1, 2), "an odd LIFT", x -> x.square(NEXT), NONE);
        }
        S.refused(2, x -> x.number(0, 1, 2), "LITTLE", x -> x.square(NEXT), LeftNumbers.LITTLE);
        S.refused(2, x -> x.number(1, 1, 2), "NONE ahead of LITTLE", x -> x.square(NEXT), NONE);
        S.refused(5, x -> x.number(0, 2, 2), "no square", x -> x.square(NEXT), NONE);
        S.fillsTheLastPlace(5, x -> x.number(0, 4, 2), "FULL", x -> x.square(NEXT));
        S.fillsTheLastPlace(2, x -> x.number(0, 1, 3), "FULL", x -> x.square(NEXT));
    }

    private static void unitBad() {
        for (int prime : PRIMES) {
            int p = prime;
            for (int f : new int[] {0, -1, p, p + 1, LEAST, GREATEST}) {
                S.refused(p, "unit(" + f + ")", x -> x.unit(f), BAD);
            }
            S.fillsTheLastPlace(p, "unit(1)", x -> x.unit(1));
            S.fillsTheLastPlace(p, "unit(p - 1)", x -> x.unit(p - 1));
        }
    }

    private static void undoLeft() {
        LeftNumbers x = Benches.empty(5);
        x.ratio(1, 2);
        S.due("the only one", x.undo(), 0);
        S.due("kind(0)", x.kind(0), BAD);
        S.due("its place is free", x.ratio(1, 3), 0);
        S.isRatio(x, 0, 1, 3);
        LeftNumbers y = Benches.full(5);
        S.due("the 60th", y.undo(), 59);
        S.due("kind(59)", y.kind(59), BAD);
        S.due("kind(58)", y.kind(58), 1);
        S.due("its place is free", y.number(0, 1, 1), 59);
        S.due("and taken again", y.number(0, 1, 1), FULL);
    }

    private static void undoOnce() {
        LeftNumbers x = Benches.empty(5);
        x.ratio(1, 2);
        x.ratio(1, 3);
        x.ratio(1, 4);
        S.due("once", x.undo(), 2);
        S.due("twice", x.undo(), KIND);
        S.due("nothing went", x.count(2), 2);
        x.ratio(1, 5);
        S.due("behind one more", x.undo(), 2);
        S.due("twice", x.undo(), KIND);
        S.due("a refused one", x.ratio(1, 0), BAD);
        S.due("is none that came", x.undo(), KIND);
    }

    private static void undoEach() {
        List<ToLongFunction<LeftNumbers>> makers = new ArrayList<>();
        makers.add(x -> x.ratio(1, 2));
        makers.add(x -> x.number(0, 1, 1));
        makers.add(x -> x.shadow(Benches.RATIO, 3));
        makers.add(x -> x.of(0, Benches.RATIO, Benches.ROOT));
        makers.add(x -> x.guess(Benches.RATIO, 41));
        makers.add(x -> x.guess(Benches.SHADOW, 41));
        makers.add(x -> x.at(Benches.ROOT));
        makers.add(x -> x.root(0, 2));
        makers.add(x -> x.square(Benches.NUMBER));
        makers.add(x -> x.unit(1));
        for (ToLongFunction<LeftNumbers> maker : makers) {
            LeftNumbers x = Benches.undone(5, y -> { });
            S.due("undo() may not be", x.count(3), 0);
            S.due("one comes", maker.applyAsLong(x), NEXT);
            S.due("undo() may be", x.count(3), 1);
            S.due("undo()", x.undo(), NEXT);
            S.due("undo() may not be", x.count(3), 0);
            S.due("it went", x.kind(NEXT), BAD);
        }
    }

    private static void undoNothing() {
        S.changesNothing(() -> Benches.empty(5), "an empty bench", x -> x.undo(), KIND);
        S.changesNothing(LeftNumbers::new, "a new bench", x -> x.undo(), KIND);
        S.changesNothing(() -> Benches.undone(5, x -> { }), "behind an undo()", x -> x.undo(), KIND);
        S.changesNothing(() -> Benches.nearlyFull(5, x -> { }), "behind an undo() of a full one", x -> x.undo(), KIND);
        LeftNumbers x = Benches.mixed(5);
        x.prime(5);
        S.due("behind prime()", x.undo(), KIND);
    }

    private static void countWhat() {
        int[] due = {5, 25, NEXT, 1};
        LeftNumbers x = Benches.mixed(5);
        for (int what = 0; what < 4; what++) {
            S.due("count(" + what + ")", x.count(what), due[what]);
        }
        for (int what : NO_WAY) {
            S.refused(5, "count(" + what + ")", y -> y.count(what), BAD);
        }
    }

    private static void countNumbers() {
        LeftNumbers x = Benches.empty(5);
        for (int i = 0; i < 60; i++) {
            S.due("count(2)", x.count(2), i);
            x.number(0, i, 3);
        }
        S.due("count(2)", x.count(2), 60);
        x.number(0, 1, 3);
        S.due("count(2)", x.count(2), 60);
        x.undo();
        S.due("count(2)", x.count(2), 59);
        x.undo();
        S.due("count(2)", x.count(2), 59);
    }

    private static void countUndo() {
        LeftNumbers x = new LeftNumbers();
        S.due("of a new one", x.count(3), 0);
        x.ratio(1, 0);
        S.due("behind a refused one", x.count(3), 0);
        x.ratio(1, 1);
        S.due("behind one that came", x.count(3), 1);
        x.number(60, 0, 1);
        S.due("behind another, refused", x.count(3), 1);
        x.undo();
        S.due("behind undo()", x.count(3), 0);
        x.undo();
        S.due("behind undo() that was refused", x.count(3), 0);
        x.ratio(1, 1);
        x.prime(4);
        S.due("behind prime() that was refused", x.count(3), 1);
        x.prime(7);
        S.due("behind prime()", x.count(3), 0);
    }

    private static void fullAheadOfBeyond() {
        S.full(5, x -> { }, "number(60, 0, 1)", x -> x.number(60, 0, 1));
        S.full(5, x -> { }, "HIGH TIMES HIGH", x -> x.of(2, Benches.HIGH, Benches.HIGH));
        S.full(5, x -> { }, "HIGH LESS HIGH", x -> x.of(1, Benches.HIGH, Benches.HIGH));
        S.full(5, x -> { }, "LOW OVER HIGH", x -> x.of(3, Benches.LOW, Benches.HIGH));
        S.full(5, x -> { }, "at(HIGH)", x -> x.at(Benches.HIGH));
        S.full(5, x -> { }, "at(LOW)", x -> x.at(Benches.LOW));
    }

    /** A full bench and a wrong argument, for each call that makes a NUMBER. */
    private static void badAheadOfFull() {
        S.refused(5, "ratio(1, 0)", x -> x.ratio(1, 0), BAD);
        S.refused(5, "number(61, 0, 1)", x -> x.number(61, 0, 1), BAD);
        S.refused(5, "shadow(0, 26)", x -> x.shadow(0, 26), BAD);
        S.refused(5, "of(4, 0, 0)", x -> x.of(4, 0, 0), BAD);
        S.refused(5, "guess(0, 0)", x -> x.guess(0, 0), BAD);
        S.refused(5, "at(60)", x -> x.at(60), BAD);
        S.refused(5, "root(5, 1)", x -> x.root(5, 1), BAD);
        S.refused(5, "square(60)", x -> x.square(60), BAD);
        S.refused(5, "unit(5)", x -> x.unit(5), BAD);
    }
}
