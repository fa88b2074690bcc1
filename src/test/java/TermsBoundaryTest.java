import java.math.BigInteger;
import java.util.List;

/** The boundaries that "What it is" and "Terms" name, parts 1 and 3; part 2 has TwoNumbersBoundaryTest. */
public final class TermsBoundaryTest {
    private static final Sentences S = new Sentences();
    private static final int[] PRIMES = Benches.PRIMES;
    private static final int NONE = LeftNumbers.NONE, BAD = LeftNumbers.BAD, KIND = LeftNumbers.KIND;
    private static final int LITTLE = LeftNumbers.LITTLE;

    public static void main(String[] args) {
        S.sentence("p is one of 2, 3, 5, .., 29, 31", TermsBoundaryTest::primes);
        S.sentence("(5 at first)", TermsBoundaryTest::primeAtFirst);
        S.sentence("at most 512 calls after it has been made", TermsBoundaryTest::lastCall);
        S.sentence("K is the greatest n with p^n not above 10^18", TermsBoundaryTest::most);
        S.sentence("NUMBERS are numbered from 0 as they are made", TermsBoundaryTest::numbered);
        S.sentence("60 at most", TermsBoundaryTest::sixty);
        S.sentence("they never change, but ROOTS by more()", TermsBoundaryTest::neverChange);
        S.sentence("LIFT v (-60 .. 60)", TermsBoundaryTest::liftBounds);
        S.sentence("n 1 .. K: u known modulo p^n, its lowest figure not 0", TermsBoundaryTest::sureBounds);
        S.sentence("n 0, a NOUGHT: x is 0 modulo p^v", TermsBoundaryTest::nought);
        S.sentence("up / low in least figures, low 1 or above", TermsBoundaryTest::leastFigures);
        S.sentence("both 1000000000 at most in size", TermsBoundaryTest::partBounds);
        S.sentence("how often p is in up, less how often in low", TermsBoundaryTest::ratioLift);
        S.sentence("of 0 / 1 60, and it is told as SURE K", TermsBoundaryTest::nil);
        S.sentence("FIGURE .. (0 .. p - 1)", TermsBoundaryTest::figureRange);
        S.sentence("0 below the LIFT", TermsBoundaryTest::figureBelowLift);
        S.sentence("it is known for i below v + n", TermsBoundaryTest::figureKnown);
        S.sentence("of a RATIO for all i", TermsBoundaryTest::figureOfRatio);
        S.sentence("coefficients of x^0 to x^7 (all 0 at first)", TermsBoundaryTest::polynomialPlaces);
        S.sentence("coefficients -1000000 .. 1000000", TermsBoundaryTest::polynomialBounds);
        S.sentence("FIRST figure f (0 .. p - 1)", TermsBoundaryTest::firstFigures);
        S.sentence("GOOD, if 0 modulo p, and its slope there is not; STUCK, if both are", TermsBoundaryTest::good);
        S.sentence("GOOD, STUCK to each power of x, to x^7", TermsBoundaryTest::goodToEachPower);
        S.sentence("ROOT known modulo p^n (n 1 .. K)", TermsBoundaryTest::rootSure);
        S.sentence("at which THE POLYNOMIAL is 0 modulo p^n", TermsBoundaryTest::rootIsOne);
        S.sentence("(a NOUGHT of LIFT n, if it is 0)", TermsBoundaryTest::rootNought);
        S.sentence("It keeps THE POLYNOMIAL as it was", TermsBoundaryTest::rootKeeps);
        S.sentence("SQUARE ROOT of x, not a NOUGHT, not 0 / 1", TermsBoundaryTest::squareOfNought);
        S.sentence("there is one, if v is even", TermsBoundaryTest::squareLift);
        S.sentence("the lowest figure of u is that of a square modulo p", TermsBoundaryTest::squareFigure);
        S.sentence("p 2: u is 1 modulo 8", TermsBoundaryTest::squareOfTwo);
        S.sentence("(SURE must be 3 at least, else it is not known", TermsBoundaryTest::squareLittle);
        S.sentence("an odd v tells ahead of that)", TermsBoundaryTest::squareOddAhead);
        S.sentence("SURE n (p 2: n less 1)", TermsBoundaryTest::squareSure);
        S.sentence("the one whose lowest figure is the lesser one", TermsBoundaryTest::squareLesser);
        S.sentence("(p 2: whose u is 1 modulo 4)", TermsBoundaryTest::squareOneModuloFour);
        S.sentence("UNIT of f (1 .. p - 1), K figures", TermsBoundaryTest::unitFigures);
        S.sentence("(p 2: 1)", TermsBoundaryTest::unitOfTwo);
        S.end();
    }

    private static boolean isPrime(int p) {
        for (int prime : PRIMES) {
            if (prime == p) {
                return true;
            }
        }
        return false;
    }

    private static void primes() {
        for (int p = -40; p <= 400; p++) {
            LeftNumbers x = new LeftNumbers();
            boolean is = isPrime(p);
            S.due("prime(" + p + ") is BAD", x.prime(p) == BAD ? 1 : 0, is ? 0 : 1);
            S.due("count(0)", x.count(0), is ? p : 5);
        }
        for (int p : new int[] {1, 32, 37, 0, -2, 4, 30, Integer.MIN_VALUE, Integer.MAX_VALUE}) {
            S.refused(7, "prime(" + p + ")", x -> x.prime(p), BAD);
        }
    }

    private static void primeAtFirst() {
        LeftNumbers x = new LeftNumbers();
        S.due("count(0)", x.count(0), 5);
        x.number(0, 5, 2);
        S.tells(x, 0, 0, 1, 1, 1);
        S.due("unit(5)", x.unit(5), BAD);
        S.due("unit(4)", x.unit(4), 1);
    }

    private static void lastCall() {
        LeftNumbers x = new LeftNumbers();
        for (int i = 0; i < 250; i++) {
            S.due("count(2)", x.count(2), Math.min(i, 60));
            S.due("ratio(1, 3)", x.ratio(1, 3), i < 60 ? i : LeftNumbers.FULL);
        }
        for (int i = 500; i < 511; i++) {
            S.due("figure(59, 1000)", x.figure(59, 1000), 1);
        }
        S.due("undo() as the 512th call", x.undo(), 59);
    }

    private static void most() {
        BigInteger top = BigInteger.TEN.pow(18);
        for (int p : PRIMES) {
            LeftNumbers x = new LeftNumbers();
            int most = x.prime(p);
            BigInteger power = BigInteger.valueOf(p).pow(most);
            S.due(p + "^K is above", power.compareTo(top) > 0 ? 1 : 0, 0);
            S.due(p + "^(K + 1) is above", power.multiply(BigInteger.valueOf(p)).compareTo(top) > 0 ? 1 : 0, 1);
            S.due("number of K figures", x.number(0, power.longValueExact() - 1, most), 0);
            S.tells(x, 0, 0, 0, most, power.longValueExact() - 1);
            S.due("number of K + 1 figures", x.number(0, 1, most + 1), BAD);
        }
    }

    private static void numbered() {
        LeftNumbers x = new LeftNumbers();
        S.due("the first", x.ratio(1, 2), 0);
        S.due("the next", x.number(0, 3, 2), 1);
        S.due("the next", x.shadow(0, 3), 2);
        S.due("one that is refused has no number", x.ratio(1, 0), BAD);
        S.due("the next", x.of(0, 0, 1), 3);
        S.due("the next", x.unit(2), 4);
        S.due("undo()", x.undo(), 4);
        S.due("the next, where one went", x.at(0), 4);
        x.prime(5);
        S.due("the first again", x.unit(2), 0);
    }

    private static void sixty() {
        S.fillsTheLastPlace(5, "ratio(1, 2)", x -> x.ratio(1, 2));
        S.fillsTheLastPlace(5, "number(0, 0, 1)", x -> x.number(0, 0, 1));
        S.fillsTheLastPlace(5, "shadow(RATIO, 0)", x -> x.shadow(Benches.RATIO, 0));
        for (int way = 0; way < 4; way++) {
            int w = way;
            S.fillsTheLastPlace(5, "of(" + w + ") of RATIOS", x -> x.of(w, Benches.NIL, Benches.RATIO));
            S.fillsTheLastPlace(5, "of(" + w + ")", x -> x.of(w, Benches.NUMBER, Benches.ROOT));
        }
        S.fillsTheLastPlace(5, "guess(RATIO, 41)", x -> x.guess(Benches.RATIO, 41));
        S.fillsTheLastPlace(5, "guess(SHADOW, 41)", x -> x.guess(Benches.SHADOW, 41));
        S.fillsTheLastPlace(5, "at(RATIO)", x -> x.at(Benches.RATIO));
        S.fillsTheLastPlace(5, "at(NUMBER)", x -> x.at(Benches.NUMBER));
        S.fillsTheLastPlace(5, "root(0, 1)", x -> x.root(0, 1));
        S.fillsTheLastPlace(5, "square(NUMBER)", x -> x.square(Benches.NUMBER));
        S.fillsTheLastPlace(2, "square(NUMBER) to 2", x -> x.square(Benches.NUMBER));
        S.fillsTheLastPlace(5, "unit(4)", x -> x.unit(4));
        LeftNumbers x = Benches.full(5);
        S.due("kind(59)", x.kind(59), 1);
        S.due("kind(60)", x.kind(60), BAD);
    }

    private static void neverChange() {
        LeftNumbers x = Benches.mixed(5), untouched = Benches.mixed(5);
        int copy = x.shadow(Benches.ROOT, 5);
        int sum = x.of(0, Benches.ROOT, Benches.NUMBER);
        List<Long> copied = Sentences.number(x, copy), summed = Sentences.number(x, sum);
        S.due("more(ROOT, 1)", x.more(Benches.ROOT, 1), 1);
        S.due("more(ROOT, 25)", x.more(Benches.ROOT, 25), 25);
        for (int i = 0; i < Benches.NEXT; i++) {
            x.of(0, i, Benches.RATIO);
            x.of(2, i, Benches.NUMBER);
            x.at(i);
            x.near(i, 0, 3);
            x.undo();
        }
        x.coefficient(1, 7);
        for (int i = 0; i < Benches.NEXT; i++) {
            boolean alike = Sentences.number(x, i).equals(Sentences.number(untouched, i));
            S.due("NUMBER " + i + " is as it was", alike ? 1 : 0, i == Benches.ROOT ? 0 : 1);
        }
        S.due("its SHADOW is as it was", Sentences.number(x, copy).equals(copied) ? 1 : 0, 1);
        S.due("its SUM is as it was", Sentences.number(x, sum).equals(summed) ? 1 : 0, 1);
    }

    private static void liftBounds() {
        for (int p : PRIMES) {
            LeftNumbers x = Benches.empty(p);
            S.due("number(-60, 1, 1)", x.number(-60, 1, 1), 0);
            S.tells(x, 0, 0, -60, 1, 1);
            S.due("number(60, 1, 1)", x.number(60, 1, 1), 1);
            S.tells(x, 1, 0, 60, 1, 1);
            S.due("number(-61, 1, 1)", x.number(-61, 1, 1), BAD);
            S.due("number(61, 1, 1)", x.number(61, 1, 1), BAD);
            S.due("60 and -60 in one product", x.of(2, 0, 1), 2);
            S.tells(x, 2, 0, 0, 1, 1);
        }
    }

    private static void sureBounds() {
        for (int p : PRIMES) {
            LeftNumbers x = Benches.empty(p);
            int most = x.count(1);
            x.number(0, p - 1, 1);
            S.tells(x, 0, 0, 0, 1, p - 1);
            x.number(0, Sentences.power(p, most) - 1, most);
            S.tells(x, 1, 0, 0, most, Sentences.power(p, most) - 1);
            x.number(0, Sentences.power(p, most - 1), most);
            S.tells(x, 2, 0, most - 1, 1, 1);
            x.number(0, p, 2);
            S.tells(x, 3, 0, 1, 1, 1);
        }
    }

    private static void nought() {
        LeftNumbers x = Benches.mixed(3);
        S.tells(x, Benches.NOUGHT, 0, 4, 0, 0);
        S.due("near by v", x.near(Benches.NOUGHT, Benches.NIL, 4), 1);
        S.due("near by v + 1", x.near(Benches.NOUGHT, Benches.NIL, 5), 2);
        S.due("figure v - 1", x.figure(Benches.NOUGHT, 3), 0);
        S.due("figure v", x.figure(Benches.NOUGHT, 4), NONE);
    }

    private static void leastFigures() {
        LeftNumbers x = Benches.empty(5);
        int[][] given = {{6, 4}, {6, -4}, {-6, -4}, {0, -7}, {0, 1000000000}, {1000000000, -1000000000}, {7, 1}};
        int[][] least = {{3, 2}, {-3, 2}, {3, 2}, {0, 1}, {0, 1}, {-1, 1}, {7, 1}};
        for (int i = 0; i < given.length; i++) {
            S.due("ratio", x.ratio(given[i][0], given[i][1]), i);
            S.isRatio(x, i, least[i][0], least[i][1]);
        }
    }

    private static void partBounds() {
        int top = 1000000000;
        LeftNumbers x = Benches.empty(5);
        int[][] within = {{top, top - 1}, {-top, top - 1}, {top - 1, top}, {1 - top, top}};
        for (int i = 0; i < within.length; i++) {
            S.due("ratio", x.ratio(within[i][0], within[i][1]), i);
            S.isRatio(x, i, within[i][0], within[i][1]);
        }
        S.due("ratio with a low of -10^9", x.ratio(1, -top), 4);
        S.isRatio(x, 4, -1, top);
        int[][] beyond = {{top + 1, 1}, {-top - 1, 1}, {1, top + 1}, {1, -top - 1}, {2 * top, 2 * top}};
        for (int[] each : beyond) {
            S.refused(5, "ratio(" + each[0] + ", " + each[1] + ")", y -> y.ratio(each[0], each[1]), BAD);
        }
    }

    private static void ratioLift() {
        for (int p : PRIMES) {
            int power = 1, times = 0;
            for (; (long) power * p <= 1000000000; times++) {
                power *= p;
            }
            LeftNumbers x = Benches.empty(p);
            x.ratio(power, p + 1);
            S.due("lift of " + power + " / " + (p + 1), x.lift(0), times);
            x.ratio(-p - 1, power);
            S.due("lift of -" + (p + 1) + " / " + power, x.lift(1), -times);
            x.ratio(power, power);
            S.due("lift of 1 / 1", x.lift(2), 0);
            x.ratio(power / p, 1 - p);
            S.due("lift of one less", x.lift(3), times - 1);
        }
    }

    private static void nil() {
        for (int p : PRIMES) {
            LeftNumbers x = Benches.empty(p);
            x.ratio(0, p);
            S.tells(x, 0, 1, 60, x.count(1), 0);
            S.isRatio(x, 0, 0, 1);
            S.due("figure(0, 60)", x.figure(0, 60), 0);
            S.due("figure(0, 1000)", x.figure(0, 1000), 0);
        }
    }

    private static void figureRange() {
        for (int p : PRIMES) {
            LeftNumbers x = Benches.empty(p);
            x.ratio(-1, 1);
            x.ratio(1, 1);
            x.number(0, Sentences.power(p, 3) - 1, 3);
            for (int i = 0; i < 3; i++) {
                S.due("figure of -1", x.figure(0, i), p - 1);
                S.due("figure of 1", x.figure(1, i), i == 0 ? 1 : 0);
                S.due("figure of p^3 - 1", x.figure(2, i), p - 1);
            }
        }
    }

    private static void figureBelowLift() {
        LeftNumbers x = Benches.mixed(3);
        x.number(-2, 2, 2);
        x.ratio(2, 9);
        for (int i = Benches.NEXT; i < Benches.NEXT + 2; i++) {
            S.due("figure(" + i + ", -100)", x.figure(i, -100), 0);
            S.due("figure(" + i + ", -3)", x.figure(i, -3), 0);
            S.due("figure(" + i + ", -2)", x.figure(i, -2), 2);
        }
        S.due("figure 59 of p^60", x.figure(Benches.HIGH, 59), 0);
        S.due("figure 60 of p^60", x.figure(Benches.HIGH, 60), 1);
        S.due("figure -61 of p^-60", x.figure(Benches.LOW, -61), 0);
        S.due("figure -60 of p^-60", x.figure(Benches.LOW, -60), 1);
        S.due("figure -1 of what is 0 modulo 1", x.figure(Benches.EMPTY_SHADOW, -1), 0);
        S.due("figure 0 of what is 0 modulo 1", x.figure(Benches.EMPTY_SHADOW, 0), NONE);
    }

    private static void figureKnown() {
        LeftNumbers x = Benches.mixed(3);
        int[] numbers = {Benches.NUMBER, Benches.ROOT, Benches.SHADOW, Benches.HIGH, Benches.LOW, Benches.ROOT_AT_0};
        int[] ends = {4, 5, 6, 65, -55, 3};
        for (int i = 0; i < ends.length; i++) {
            S.due("the highest is known of " + i, x.figure(numbers[i], ends[i] - 1) >= 0 ? 1 : 0, 1);
            S.due("the next is not of " + i, x.figure(numbers[i], ends[i]), NONE);
            S.due("nor the last of " + i, x.figure(numbers[i], 1000), NONE);
        }
        int most = x.count(1);
        S.due("K figures", x.number(0, Sentences.power(3, most) - 1, most), Benches.NEXT);
        S.due("figure K - 1", x.figure(Benches.NEXT, most - 1), 2);
        S.due("figure K", x.figure(Benches.NEXT, most), NONE);
    }

    private static void figureOfRatio() {
        for (int p : PRIMES) {
            LeftNumbers x = Benches.empty(p);
            int most = x.count(1);
            // -1 / (p p - 1) is 1 + p^2 + p^4 + ..
            x.ratio(-1, p * p - 1);
            for (int i : new int[] {0, 1, most - 1, most, most + 1, 999, 1000}) {
                S.due("figure(0, " + i + ")", x.figure(0, i), (i + 1) % 2);
            }
            x.ratio(-p, p * p - 1);
            x.ratio(-1, p * (p * p - 1));
            for (int i : new int[] {-1, 0, 1, 2, most, most + 1, 999, 1000}) {
                S.due("of LIFT 1, figure " + i, x.figure(1, i), i < 1 ? 0 : i % 2);
                S.due("of LIFT -1, figure " + i, x.figure(2, i), Math.abs(i) % 2);
            }
        }
    }

    private static void polynomialPlaces() {
        LeftNumbers x = new LeftNumbers();
        for (int i = 0; i < 8; i++) {
            S.due("coefficient(" + i + ")", x.coefficient(i, i + 1), 0);
        }
        for (int i = 0; i < 8; i++) {
            S.due("coefficient(" + i + ")", x.coefficient(i, 0), i + 1);
        }
        S.refused(5, "coefficient(-1, 1)", y -> y.coefficient(-1, 1), 2000000);
        S.refused(5, "coefficient(8, 1)", y -> y.coefficient(8, 1), 2000000);
    }

    private static void polynomialBounds() {
        for (int place = 0; place < 8; place++) {
            int i = place;
            LeftNumbers x = new LeftNumbers();
            x.coefficient(i, 1000000);
            S.due("the greatest is held", x.coefficient(i, -1000000), 1000000);
            S.due("the least is held", x.coefficient(i, 0), -1000000);
            S.refused(5, "coefficient(" + i + ", 1000001)", y -> y.coefficient(i, 1000001), 2000000);
            S.refused(5, "coefficient(" + i + ", -1000001)", y -> y.coefficient(i, -1000001), 2000000);
        }
    }

    private static void firstFigures() {
        for (int prime : PRIMES) {
            int p = prime;
            LeftNumbers x = Benches.empty(p);
            x.coefficient(1, 1);
            S.due("firsts of x", x.firsts(0), 1);
            S.due("root(0, 1)", x.root(0, 1), 0);
            x.coefficient(0, 1);
            S.due("firsts of x + 1", x.firsts(0), 1 << (p - 1));
            S.due("root(p - 1, 1)", x.root(p - 1, 1), 1);
            S.refused(p, "root(-1, 1)", y -> y.root(-1, 1), BAD);
            S.refused(p, "root(p, 1)", y -> y.root(p, 1), BAD);
        }
    }

    private static void good() {
        for (int p : PRIMES) {
            LeftNumbers x = Benches.empty(p);
            int all = (int) ((1L << p) - 1);
            S.due("GOOD of 0", x.firsts(0), 0);
            S.due("STUCK of 0", x.firsts(1), all);
            x.coefficient(0, p);
            S.due("STUCK of p", x.firsts(1), all);
            x.coefficient(0, 1);
            S.due("GOOD of 1", x.firsts(0), 0);
            S.due("STUCK of 1", x.firsts(1), 0);
            x.coefficient(0, 0);
            x.coefficient(2, 1);
            S.due("GOOD of x x", x.firsts(0), 0);
            S.due("STUCK of x x", x.firsts(1), 1);
            S.due("root of what is STUCK", x.root(0, 1), NONE);
            x.coefficient(1, p);
            S.due("STUCK of x x + p x", x.firsts(1), 1);
            S.due("GOOD of x x + p x", x.firsts(0), 0);
            x.coefficient(1, -1);
            S.due("GOOD of x x - x", x.firsts(0), 3);
            S.due("STUCK of x x - x", x.firsts(1), 0);
        }
    }

    private static void rootSure() {
        for (int prime : PRIMES) {
            int p = prime;
            LeftNumbers x = Benches.mixed(p);
            int most = x.count(1);
            S.due("root(1, 1)", x.root(1, 1), Benches.NEXT);
            S.tells(x, Benches.NEXT, 2, 0, 1, 1);
            S.due("root(1, K)", x.root(1, most), Benches.NEXT + 1);
            S.tells(x, Benches.NEXT + 1, 2, 0, most, 1);
            S.refused(p, "root(1, 0)", y -> y.root(1, 0), BAD);
            S.refused(p, "root(1, K + 1)", y -> y.root(1, most + 1), BAD);
            S.refused(p, "root(1, -1)", y -> y.root(1, -1), BAD);
        }
    }

    private static int sumOf(int p, int i, int f) {
        return BigInteger.valueOf(f).pow(i).add(BigInteger.valueOf(p - 1)).mod(BigInteger.valueOf(p)).intValue();
    }

    private static int slopeOf(int p, int i, int f) {
        return BigInteger.valueOf(f).pow(i - 1).multiply(BigInteger.valueOf(i)).mod(BigInteger.valueOf(p)).intValue();
    }

    private static void goodToEachPower() {
        for (int p : PRIMES) {
            for (int i = 1; i < 8; i++) {
                LeftNumbers x = Benches.empty(p);
                x.coefficient(i, 1);
                x.coefficient(0, -1);
                int good = 0, stuck = 0;
                for (int f = 0; f < p; f++) {
                    boolean isRoot = sumOf(p, i, f) == 0, isFlat = slopeOf(p, i, f) == 0;
                    good += isRoot && !isFlat ? 1 << f : 0;
                    stuck += isRoot && isFlat ? 1 << f : 0;
                }
                S.due("GOOD of x^" + i + " - 1 to " + p, x.firsts(0), good);
                S.due("STUCK of x^" + i + " - 1 to " + p, x.firsts(1), stuck);
            }
        }
    }

    /** x^7 + x x + x + p has the GOOD 0 to every PRIME. */
    private static void rootIsOne() {
        for (int p : PRIMES) {
            int most = new LeftNumbers().prime(p);
            for (int n = 1; n <= most; n++) {
                LeftNumbers x = Benches.empty(p);
                x.coefficient(7, 1);
                x.coefficient(2, 1);
                x.coefficient(1, 1);
                x.coefficient(0, p);
                S.due("root(0, " + n + ")", x.root(0, n), 0);
                S.due("its LIFT", x.lift(0), 1);
                S.due("its SURE", x.sure(0), n - 1);
                BigInteger root = BigInteger.valueOf(x.told(0)).multiply(BigInteger.valueOf(p));
                BigInteger value = root.pow(7).add(root.pow(2)).add(root).add(BigInteger.valueOf(p));
                S.due("is 0", value.mod(BigInteger.valueOf(p).pow(n)).signum(), 0);
            }
        }
    }

    private static void rootNought() {
        LeftNumbers x = Benches.empty(7);
        x.coefficient(1, 1);
        x.coefficient(0, -343);
        S.due("7^3 modulo 7^3", x.root(0, 3), 0);
        S.tells(x, 0, 2, 3, 0, 0);
        S.due("7^3 modulo 7^4", x.root(0, 4), 1);
        S.tells(x, 1, 2, 3, 1, 1);
        S.due("7^3 modulo 7", x.root(0, 1), 2);
        S.tells(x, 2, 2, 1, 0, 0);
        x.coefficient(0, 0);
        S.due("0 modulo 7^K", x.root(0, 21), 3);
        S.tells(x, 3, 2, 21, 0, 0);
        LeftNumbers two = Benches.empty(2);
        two.coefficient(1, 1);
        S.due("0 modulo 2^K", two.root(0, 59), 0);
        S.tells(two, 0, 2, 59, 0, 0);
    }

    private static void rootKeeps() {
        LeftNumbers x = Benches.mixed(5);
        for (int i = 0; i < 8; i++) {
            x.coefficient(i, 999);
        }
        S.due("more(ROOT, 25)", x.more(Benches.ROOT, 25), 25);
        S.tells(x, Benches.ROOT, 2, 0, 25, 6);
        S.due("more(ROOT_AT_0, 25)", x.more(Benches.ROOT_AT_0, 25), 0);
        S.tells(x, Benches.ROOT_AT_0, 2, 25, 0, 0);
    }

    private static void squareOfNought() {
        for (int p : new int[] {2, 5}) {
            S.refused(p, "square(NOUGHT)", x -> x.square(Benches.NOUGHT), KIND);
            S.refused(p, "square(0 / 1)", x -> x.square(Benches.NIL), KIND);
            S.refused(p, "square(EMPTY_SHADOW)", x -> x.square(Benches.EMPTY_SHADOW), KIND);
            S.refused(p, "square(ROOT_AT_0)", x -> x.square(Benches.ROOT_AT_0), KIND);
        }
    }

    private static void squareLift() {
        for (int prime : PRIMES) {
            int p = prime;
            for (int lift : new int[] {-60, -2, 0, 2, 58, 60}) {
                LeftNumbers x = Benches.empty(p);
                x.number(lift, 1, 4);
                S.due("square of LIFT " + lift, x.square(0), 1);
                S.tells(x, 1, 0, lift / 2, p == 2 ? 3 : 4, 1);
            }
            for (int lift : new int[] {-59, -1, 1, 59}) {
                S.refused(p, x -> x.number(lift, 1, 4), "square of LIFT " + lift, x -> x.square(Benches.NEXT), NONE);
            }
        }
    }

    private static void squareFigure() {
        for (int prime : PRIMES) {
            int p = prime;
            for (int figure = 1; figure < p && p != 2; figure++) {
                int f = figure;
                int root = 0;
                for (int i = p - 1; i > 0; i--) {
                    root = i * i % p == f ? i : root;
                }
                LeftNumbers x = Benches.empty(p);
                x.number(0, f, 1);
                S.due("square of " + f + " to " + p, x.square(0), root == 0 ? NONE : 1);
                if (root != 0) {
                    S.tells(x, 1, 0, 0, 1, root);
                } else {
                    S.due("NUMBERS", x.count(2), 1);
                }
            }
        }
        S.refused(3, x -> x.number(0, 2, 1), "square of 2 to 3", x -> x.square(Benches.NEXT), NONE);
    }

    private static void squareOfTwo() {
        for (int n : new int[] {3, 4, 59}) {
            for (int unit = 1; unit < 8; unit += 2) {
                int u = unit;
                LeftNumbers x = Benches.empty(2);
                x.number(-4, u, n);
                S.due("square of " + u + ", SURE " + n, x.square(0), u == 1 ? 1 : NONE);
                S.due("NUMBERS", x.count(2), u == 1 ? 2 : 1);
            }
        }
        for (int u = 3; u < 8; u += 2) {
            int unit = u;
            S.refused(2, x -> x.number(0, unit, 3), "square of " + u, x -> x.square(Benches.NEXT), NONE);
        }
        LeftNumbers x = Benches.empty(2);
        x.number(0, 9, 4);
        S.due("9 is 1 modulo 8", x.square(0), 1);
        S.tells(x, 1, 0, 0, 3, 5);
    }

    private static void squareLittle() {
        for (int n = 1; n < 3; n++) {
            for (int unit = 1; unit < 1 << n; unit += 2) {
                int sure = n, u = unit;
                S.refused(2, x -> x.number(0, u, sure), "square of " + u + ", SURE " + n,
                    x -> x.square(Benches.NEXT), LITTLE);
            }
        }
        LeftNumbers x = Benches.empty(2);
        x.number(0, 1, 3);
        S.due("SURE 3 is enough", x.square(0), 1);
        S.tells(x, 1, 0, 0, 2, 1);
        LeftNumbers three = Benches.empty(3);
        three.number(0, 1, 1);
        S.due("of other primes 1 is enough", three.square(0), 1);
        S.tells(three, 1, 0, 0, 1, 1);
    }

    private static void squareOddAhead() {
        for (int n = 1; n < 4; n++) {
            int sure = n;
            S.refused(2, x -> x.number(-1, 1, sure), "LIFT -1, SURE " + n, x -> x.square(Benches.NEXT), NONE);
            S.refused(2, x -> x.number(1, 1, sure), "LIFT 1, SURE " + n, x -> x.square(Benches.NEXT), NONE);
        }
    }

    private static void squareSure() {
        for (int p : PRIMES) {
            int most = new LeftNumbers().prime(p);
            int less = p == 2 ? 1 : 0;
            for (int n : new int[] {p == 2 ? 3 : 1, 3, most - 1, most}) {
                LeftNumbers x = Benches.empty(p);
                x.number(0, 1, n);
                S.due("square", x.square(0), 1);
                S.due("SURE of the root, of " + n, x.sure(1), n - less);
            }
            LeftNumbers x = Benches.empty(p);
            x.ratio(1, 1);
            S.due("square of a RATIO", x.square(0), 1);
            S.tells(x, 1, 0, 0, most - less, 1);
        }
    }

    private static void squareLesser() {
        for (int p : PRIMES) {
            for (int root = 1; root < p && p != 2; root++) {
                LeftNumbers x = Benches.empty(p);
                int most = x.count(1);
                x.ratio(root * root, 1);
                S.due("square of " + root * root, x.square(0), 1);
                long due = 2 * root < p ? root : Sentences.power(p, most) - root;
                S.tells(x, 1, 0, 0, most, due);
            }
        }
    }

    private static void squareOneModuloFour() {
        for (int root = 1; root < 32; root += 2) {
            LeftNumbers x = Benches.empty(2);
            x.ratio(root * root, 1);
            S.due("square of " + root * root, x.square(0), 1);
            S.tells(x, 1, 0, 0, 58, root % 4 == 1 ? root : (1L << 58) - root);
        }
    }

    private static void unitFigures() {
        for (int prime : PRIMES) {
            int p = prime;
            LeftNumbers x = Benches.empty(p);
            int most = x.count(1);
            S.due("unit(1)", x.unit(1), 0);
            S.tells(x, 0, 0, 0, most, 1);
            S.due("unit(p - 1)", x.unit(p - 1), 1);
            S.tells(x, 1, 0, 0, most, p == 2 ? 1 : Sentences.power(p, most) - 1);
            BigInteger modulus = BigInteger.valueOf(p).pow(most);
            for (int f = 2; f < p; f++) {
                int i = x.unit(f);
                BigInteger told = BigInteger.valueOf(x.told(i));
                S.due("its first figure", x.figure(i, 0), f);
                S.due("its power", told.modPow(BigInteger.valueOf(p - 1), modulus).longValueExact(), 1);
                S.due("its SURE", x.sure(i), most);
            }
            S.refused(p, "unit(0)", y -> y.unit(0), BAD);
            S.refused(p, "unit(p)", y -> y.unit(p), BAD);
        }
    }

    private static void unitOfTwo() {
        LeftNumbers x = Benches.empty(2);
        S.due("unit(1)", x.unit(1), 0);
        S.tells(x, 0, 0, 0, 59, 1);
        S.refused(2, "unit(2)", y -> y.unit(2), BAD);
        S.refused(2, "unit(0)", y -> y.unit(0), BAD);
    }
}
