import java.math.BigInteger;

/** The boundaries that part 2 of "Terms" names: what is made of two NUMBERS, NEAR, GUESS, ROUND. */
public final class TwoNumbersBoundaryTest {
    private static final Sentences S = new Sentences();
    private static final int[] PRIMES = Benches.PRIMES;
    private static final int NONE = LeftNumbers.NONE, BAD = LeftNumbers.BAD, KIND = LeftNumbers.KIND;
    private static final int ZERO = LeftNumbers.ZERO;
    private static final int SUM = 0, LESS = 1, TIMES = 2, OVER = 3;
    private static final int TOP = 1000000000;
    private static final int NEXT = Benches.NEXT;

    public static void main(String[] args) {
        S.sentence("SUM of RATIOS; an up above 10^9 in size", TwoNumbersBoundaryTest::sumUp);
        S.sentence("LESS of RATIOS; an up above 10^9 in size", TwoNumbersBoundaryTest::lessUp);
        S.sentence("TIMES of RATIOS; an up above 10^9 in size", TwoNumbersBoundaryTest::timesUp);
        S.sentence("OVER of RATIOS; an up above 10^9 in size", TwoNumbersBoundaryTest::overUp);
        S.sentence("a low above 10^9 in size", TwoNumbersBoundaryTest::lows);
        S.sentence("the RATIO that they come to, in least figures", TwoNumbersBoundaryTest::leastFigures);
        S.sentence("the NUMBER with its LIFT, and K figures of it", TwoNumbersBoundaryTest::greatRatios);
        S.sentence("m being the lesser of both v + n", TwoNumbersBoundaryTest::lesserEnd);
        S.sentence("a RATIO counting as one with figures without end", TwoNumbersBoundaryTest::withoutEnd);
        S.sentence("LIFT and SURE as that tells", TwoNumbersBoundaryTest::cancelled);
        S.sentence("(a NOUGHT of LIFT m, if all of it is 0)", TwoNumbersBoundaryTest::noughtOfSum);
        S.sentence("SUM, LESS whose m is beyond 60", TwoNumbersBoundaryTest::sumBeyond);
        S.sentence("TIMES: LIFT is the sum of both LIFTS", TwoNumbersBoundaryTest::timesLift);
        S.sentence("OVER: LIFT is the difference of both LIFTS", TwoNumbersBoundaryTest::overLift);
        S.sentence("SURE the lesser of both SURES", TwoNumbersBoundaryTest::lesserSure);
        S.sentence("a NOUGHT, if one is", TwoNumbersBoundaryTest::noughtTimes);
        S.sentence("(of OVER: if x is)", TwoNumbersBoundaryTest::noughtOver);
        S.sentence("0 / 1 TIMES is the RATIO 0 / 1", TwoNumbersBoundaryTest::nilTimes);
        S.sentence("0 / 1 OVER any but NOUGHTS is the RATIO 0 / 1", TwoNumbersBoundaryTest::nilOver);
        S.sentence("(A SURE that would be above K is K", TwoNumbersBoundaryTest::sureAboveMost);
        S.sentence("of SUM, LESS the highest figures are not kept then)", TwoNumbersBoundaryTest::highestNotKept);
        S.sentence("NEAR: x - y is 0 modulo p^k: 1; it is not: 0", TwoNumbersBoundaryTest::near);
        S.sentence("NEAR 2: it is not known", TwoNumbersBoundaryTest::nearNotKnown);
        S.sentence("GUESS of x, not a NOUGHT", TwoNumbersBoundaryTest::guessOfNought);
        S.sentence("GUESS: up, low not above B in size", TwoNumbersBoundaryTest::guessBound);
        S.sentence("GUESS: which is NEAR x by v + n", TwoNumbersBoundaryTest::guessIsNear);
        S.sentence("(of a RATIO x itself, if its are not above B, else none)", TwoNumbersBoundaryTest::guessOfRatio);
        S.sentence("2 B B must be below p^n", TwoNumbersBoundaryTest::guessTooGreat);
        S.sentence("(K for n of a RATIO)", TwoNumbersBoundaryTest::guessTooGreatOfRatio);
        S.sentence("ROUND of a RATIO, not 0 / 1", TwoNumbersBoundaryTest::roundOfNil);
        S.sentence("ROUND: its FIGURES from its LIFT on", TwoNumbersBoundaryTest::roundFromLift);
        S.sentence("ROUND: the least r", TwoNumbersBoundaryTest::leastRound);
        S.sentence("PERIOD the least t above 0", TwoNumbersBoundaryTest::leastPeriod);
        S.sentence("where r + t is above 2000, they are not told", TwoNumbersBoundaryTest::longRound);
        S.end();
    }

    /** The call on a / b and c / d comes to up / low, a RATIO or a NUMBER as its size asks; to each PRIME. */
    private static void comesTo(int way, int a, int b, int c, int d, long up, long low) {
        for (int p : PRIMES) {
            LeftNumbers x = Benches.empty(p);
            x.ratio(a, b);
            x.ratio(c, d);
            S.due("of(" + way + ") of " + a + " / " + b + ", " + c + " / " + d, x.of(way, 0, 1), 2);
            if (Math.abs(up) <= TOP && low <= TOP) {
                S.isRatio(x, 2, (int) up, (int) low);
                S.due("sure", x.sure(2), x.count(1));
            } else {
                S.isNumberOf(x, 2, up, low);
                S.due("part(2, 0)", x.part(2, 0), 0);
                S.due("part(2, 1)", x.part(2, 1), 0);
            }
        }
    }

    private static void sumUp() {
        comesTo(SUM, TOP - 1, 1, 1, 1, TOP, 1);
        comesTo(SUM, TOP, 1, 1, 1, TOP + 1, 1);
        comesTo(SUM, 1 - TOP, 1, -1, 1, -TOP, 1);
        comesTo(SUM, -TOP, 1, -1, 1, -TOP - 1, 1);
        comesTo(SUM, TOP, 1, TOP, 1, 2L * TOP, 1);
        comesTo(SUM, TOP, 1, -TOP, 1, 0, 1);
    }

    private static void lessUp() {
        comesTo(LESS, TOP - 1, 1, -1, 1, TOP, 1);
        comesTo(LESS, TOP, 1, -1, 1, TOP + 1, 1);
        comesTo(LESS, 1 - TOP, 1, 1, 1, -TOP, 1);
        comesTo(LESS, -TOP, 1, 1, 1, -TOP - 1, 1);
        comesTo(LESS, TOP, 1, -TOP, 1, 2L * TOP, 1);
        comesTo(LESS, TOP, 1, TOP, 1, 0, 1);
    }

    private static void timesUp() {
        comesTo(TIMES, 1000, 1, 1000000, 1, TOP, 1);
        comesTo(TIMES, 1001, 1, 999001, 1, TOP + 1, 1);
        comesTo(TIMES, -1000, 1, 1000000, 1, -TOP, 1);
        comesTo(TIMES, 1001, 1, -999001, 1, -TOP - 1, 1);
        comesTo(TIMES, TOP, 1, -TOP, 1, -1000000000000000000L, 1);
    }

    private static void overUp() {
        comesTo(OVER, 1000, 1, 1, 1000000, TOP, 1);
        comesTo(OVER, 1001, 1, 1, 999001, TOP + 1, 1);
        comesTo(OVER, 1000, 1, -1, 1000000, -TOP, 1);
        comesTo(OVER, 1001, 1, -1, 999001, -TOP - 1, 1);
        comesTo(OVER, TOP, 1, 1, TOP, 1000000000000000000L, 1);
    }

    private static void lows() {
        comesTo(TIMES, 1, 1000, 1, 1000000, 1, TOP);
        comesTo(TIMES, 1, 1001, 1, 999001, 1, TOP + 1);
        comesTo(TIMES, -1, TOP, 1, TOP, -1, 1000000000000000000L);
        comesTo(OVER, 1, 1000, 1000000, 1, 1, TOP);
        comesTo(OVER, 1, 1001, 999001, 1, 1, TOP + 1);
        comesTo(OVER, 1, 1001, -999001, 1, -1, TOP + 1);
        comesTo(SUM, 1, 512, 1, 1953125, 1953637, TOP);
        comesTo(SUM, 1, 1001, 1, 999001, 1000002, TOP + 1);
        comesTo(LESS, 1, 512, 1, 1953125, 1952613, TOP);
        comesTo(LESS, 1, 1001, 1, 999001, 998000, TOP + 1);
    }

    private static void leastFigures() {
        comesTo(SUM, 1, TOP, -1, TOP, 0, 1);
        comesTo(SUM, 1, TOP, 1, TOP, 1, TOP / 2);
        comesTo(LESS, 1, 6, 2, 3, -1, 2);
        comesTo(TIMES, TOP, 999999999, 999999999, TOP, 1, 1);
        comesTo(TIMES, -TOP, 999999999, -999999999, TOP, 1, 1);
        comesTo(OVER, TOP, 999999999, -TOP, 999999999, -1, 1);
        comesTo(OVER, 1, TOP, 1, TOP, 1, 1);
    }

    private static void greatRatios() {
        LeftNumbers x = Benches.empty(2);
        x.ratio(1 << 29, 1);
        x.ratio(1, 1 << 29);
        x.of(TIMES, 0, 0);
        S.tells(x, 2, 0, 58, 59, 1);
        x.of(TIMES, 1, 1);
        S.tells(x, 3, 0, -58, 59, 1);
        x.of(OVER, 0, 1);
        S.tells(x, 4, 0, 58, 59, 1);
        // 844886654 999999929 + 308034930 999999937 is 2^60, the greatest LIFT that comes of two RATIOS.
        x.ratio(844886654, 999999937);
        x.ratio(308034930, 999999929);
        S.due("SUM of LIFT 60", x.of(SUM, 5, 6), 7);
        S.isNumberOf(x, 7, 1L << 60, 999999937L * 999999929);
        S.due("its LIFT", x.lift(7), 60);
    }

    private static void lesserEnd() {
        for (int p : PRIMES) {
            LeftNumbers x = Benches.empty(p);
            x.number(0, 1, 3);
            x.number(1, 1, 2);
            x.number(1, 1, 3);
            x.number(1, 1, 1);
            int[] ends = {3, 3, 3, 2};
            for (int i = 1; i < 4; i++) {
                int sum = x.of(SUM, 0, i);
                S.tells(x, sum, 0, 0, ends[i], 1 + p);
                int other = x.of(SUM, i, 0);
                S.tells(x, other, 0, 0, ends[i], 1 + p);
                int less = x.of(LESS, i, 0);
                S.tells(x, less, 0, 0, ends[i], p - 1);
            }
        }
    }

    private static void withoutEnd() {
        for (int p : PRIMES) {
            LeftNumbers x = Benches.empty(p);
            int most = x.count(1);
            x.ratio(1, 1);
            x.number(0, p, most);
            x.of(SUM, 0, 1);
            S.tells(x, 2, 0, 0, most, 1 + p);
            x.number(0, p, 2);
            x.of(SUM, 3, 0);
            S.tells(x, 4, 0, 0, 2, 1 + p);
            x.number(60, 1, most);
            x.of(SUM, 0, 5);
            S.tells(x, 6, 0, 0, most, 1);
            x.ratio(0, 1);
            x.of(SUM, 7, 5);
            S.tells(x, 8, 0, 60, most, 1);
            x.of(LESS, 7, 5);
            S.tells(x, 9, 0, 60, most, Sentences.power(p, most) - 1);
        }
    }

    private static void cancelled() {
        for (int p : PRIMES) {
            LeftNumbers x = Benches.empty(p);
            x.number(-2, 1, 5);
            x.number(-2, 1 + Sentences.power(p, 4), 5);
            x.number(-2, 1 + Sentences.power(p, 3), 5);
            x.of(LESS, 1, 0);
            S.tells(x, 3, 0, 2, 1, 1);
            x.of(LESS, 2, 0);
            S.tells(x, 4, 0, 1, 2, 1);
            x.of(LESS, 0, 1);
            S.tells(x, 5, 0, 2, 1, p - 1);
            x.number(-2, Sentences.power(p, 5) - 1, 5);
            x.of(SUM, 1, 6);
            S.tells(x, 7, 0, 2, 1, 1);
        }
    }

    private static void noughtOfSum() {
        for (int p : PRIMES) {
            LeftNumbers x = Benches.empty(p);
            int most = x.count(1);
            x.number(-2, 1, 5);
            x.of(LESS, 0, 0);
            S.tells(x, 1, 0, 3, 0, 0);
            x.number(-2, Sentences.power(p, 5) - 1, 5);
            x.of(SUM, 0, 2);
            S.tells(x, 3, 0, 3, 0, 0);
            x.number(0, 0, 2);
            x.number(2, 1, 3);
            x.of(SUM, 4, 5);
            S.tells(x, 6, 0, 2, 0, 0);
            x.number(1, 1, 3);
            x.of(SUM, 4, 7);
            S.tells(x, 8, 0, 1, 1, 1);
            x.ratio(p * p, 1);
            x.of(SUM, 4, 9);
            S.tells(x, 10, 0, 2, 0, 0);
            x.ratio(0, 1);
            x.of(LESS, 11, 4);
            S.tells(x, 12, 0, 2, 0, 0);
            x.number(0, 1, most);
            x.of(LESS, 13, 13);
            S.tells(x, 14, 0, most, 0, 0);
        }
    }

    private static void sumBeyond() {
        for (int prime : PRIMES) {
            int p = prime;
            LeftNumbers x = Benches.empty(p);
            x.number(56, 1, 4);
            S.due("a NOUGHT of LIFT 60", x.of(LESS, 0, 0), 1);
            S.tells(x, 1, 0, 60, 0, 0);
            S.beyond(p, y -> y.number(56, 1, 5), "a NOUGHT of LIFT 61", y -> y.of(LESS, NEXT, NEXT));
            S.beyond(p, "p^60 less itself", y -> y.of(LESS, Benches.HIGH, Benches.HIGH));
        }
        S.beyond(5, y -> y.number(60, 6, 5), "p^60 and p^61, less p^60", y -> y.of(LESS, NEXT, Benches.HIGH));
        S.beyond(5, y -> y.number(60, 4, 5), "p^60 and 4 p^60", y -> y.of(SUM, NEXT, Benches.HIGH));
    }

    private static void timesLift() {
        for (int prime : PRIMES) {
            int p = prime;
            LeftNumbers x = Benches.empty(p);
            x.number(30, 1, 2);
            x.number(-30, 1, 2);
            x.of(TIMES, 0, 0);
            S.tells(x, 2, 0, 60, 2, 1);
            x.of(TIMES, 1, 1);
            S.tells(x, 3, 0, -60, 2, 1);
            x.of(TIMES, 2, 3);
            S.tells(x, 4, 0, 0, 2, 1);
            S.beyond(p, y -> y.number(1, 1, 2), "60 and 1", y -> y.of(TIMES, Benches.HIGH, NEXT));
            S.beyond(p, y -> y.number(1, 1, 2), "1 and 60", y -> y.of(TIMES, NEXT, Benches.HIGH));
            S.beyond(p, y -> y.number(-1, 1, 2), "-60 and -1", y -> y.of(TIMES, Benches.LOW, NEXT));
            S.beyond(p, y -> y.ratio(p, 1), "60 and a RATIO of 1", y -> y.of(TIMES, Benches.HIGH, NEXT));
            S.beyond(p, "60 and a NOUGHT", y -> y.of(TIMES, Benches.HIGH, Benches.NOUGHT));
        }
    }

    private static void overLift() {
        for (int prime : PRIMES) {
            int p = prime;
            LeftNumbers x = Benches.empty(p);
            x.number(30, 1, 2);
            x.number(-30, 1, 2);
            x.of(OVER, 0, 1);
            S.tells(x, 2, 0, 60, 2, 1);
            x.of(OVER, 1, 0);
            S.tells(x, 3, 0, -60, 2, 1);
            x.of(OVER, 2, 2);
            S.tells(x, 4, 0, 0, 2, 1);
            S.beyond(p, y -> y.number(-1, 1, 2), "60 over -1", y -> y.of(OVER, Benches.HIGH, NEXT));
            S.beyond(p, y -> y.number(1, 1, 2), "-60 over 1", y -> y.of(OVER, Benches.LOW, NEXT));
            S.beyond(p, y -> y.number(1, 1, 2), "1 over -60", y -> y.of(OVER, NEXT, Benches.LOW));
            S.beyond(p, "a NOUGHT over -60", y -> y.of(OVER, Benches.NOUGHT, Benches.LOW));
        }
    }

    private static void lesserSure() {
        for (int p : PRIMES) {
            LeftNumbers x = Benches.empty(p);
            int most = x.count(1);
            x.number(0, 1, 1);
            x.number(0, 1, 2);
            x.number(0, 1, most);
            x.ratio(1, 1);
            int[] sures = {1, 2, most, most};
            for (int i = 0; i < 4; i++) {
                for (int j = 0; j < 4; j++) {
                    for (int way = TIMES; way <= OVER; way++) {
                        int made = x.of(way, i, j);
                        S.due("sure of " + i + ", " + j, x.sure(made), Math.min(sures[i], sures[j]));
                        S.due("kind of " + i + ", " + j, x.kind(made), i + j == 6 ? 1 : 0);
                    }
                }
            }
        }
    }

    private static void noughtTimes() {
        LeftNumbers x = Benches.mixed(5);
        int[] others = {Benches.NUMBER, Benches.ROOT, Benches.SHADOW, Benches.RATIO, Benches.LOW, Benches.NOUGHT,
            Benches.EMPTY_SHADOW, Benches.ROOT_AT_0};
        int[] lifts = {4, 4, 4, 4, -56, 8, 4, 7};
        for (int i = 0; i < others.length; i++) {
            int left = x.of(TIMES, Benches.NOUGHT, others[i]);
            S.tells(x, left, 0, lifts[i], 0, 0);
            int right = x.of(TIMES, others[i], Benches.NOUGHT);
            S.tells(x, right, 0, lifts[i], 0, 0);
        }
    }

    private static void noughtOver() {
        LeftNumbers x = Benches.mixed(5);
        int[] others = {Benches.NUMBER, Benches.ROOT, Benches.SHADOW, Benches.RATIO, Benches.HIGH};
        int[] lifts = {4, 4, 4, 4, -56};
        for (int i = 0; i < others.length; i++) {
            int made = x.of(OVER, Benches.NOUGHT, others[i]);
            S.tells(x, made, 0, lifts[i], 0, 0);
        }
        for (int nought : new int[] {Benches.NOUGHT, Benches.EMPTY_SHADOW, Benches.ROOT_AT_0}) {
            S.refused(5, "NUMBER over NOUGHT " + nought, y -> y.of(OVER, Benches.NUMBER, nought), ZERO);
            S.refused(5, "NOUGHT over NOUGHT " + nought, y -> y.of(OVER, Benches.NOUGHT, nought), ZERO);
        }
    }

    private static void nilTimes() {
        LeftNumbers x = Benches.mixed(5);
        for (int i = 0; i < NEXT; i++) {
            int left = x.of(TIMES, Benches.NIL, i);
            S.isRatio(x, left, 0, 1);
            S.tells(x, left, 1, 60, 25, 0);
            int right = x.of(TIMES, i, Benches.NIL);
            S.isRatio(x, right, 0, 1);
        }
    }

    private static void nilOver() {
        LeftNumbers x = Benches.mixed(5);
        for (int i : new int[] {Benches.RATIO, Benches.NUMBER, Benches.ROOT, Benches.SHADOW, Benches.HIGH, Benches.LOW}) {
            int made = x.of(OVER, Benches.NIL, i);
            S.isRatio(x, made, 0, 1);
            S.tells(x, made, 1, 60, 25, 0);
        }
        for (int i : new int[] {Benches.NIL, Benches.NOUGHT, Benches.EMPTY_SHADOW, Benches.ROOT_AT_0}) {
            S.refused(5, "0 / 1 over " + i, y -> y.of(OVER, Benches.NIL, i), ZERO);
            S.refused(5, "RATIO over " + i, y -> y.of(OVER, Benches.RATIO, i), ZERO);
        }
    }

    private static void sureAboveMost() {
        for (int p : PRIMES) {
            LeftNumbers x = Benches.empty(p);
            int most = x.count(1);
            x.ratio(1, 1);
            x.number(1, 1, most - 2);
            x.number(1, 1, most - 1);
            x.number(1, 1, most);
            int[] sures = {0, most - 1, most, most};
            for (int i = 1; i < 4; i++) {
                int sum = x.of(SUM, 0, i);
                S.tells(x, sum, 0, 0, sures[i], 1 + p);
                S.due("the highest is known", x.figure(sum, sures[i] - 1), 0);
                S.due("the next is not", x.figure(sum, sures[i]), NONE);
            }
            x.number(0, 0, most);
            x.number(1, 0, most);
            x.number(-1, 0, most);
            int[] of = {most, most, most - 1};
            for (int i = 0; i < 3; i++) {
                int sum = x.of(SUM, 7 + i, 0);
                S.tells(x, sum, 0, 0, of[i], 1);
            }
        }
    }

    private static void highestNotKept() {
        for (int p : PRIMES) {
            LeftNumbers x = Benches.empty(p);
            int most = x.count(1);
            x.ratio(1, p);
            x.number(most - 2, 1, most);
            x.number(most - 1, 1, most);
            x.of(SUM, 0, 1);
            S.tells(x, 3, 0, -1, most, 1 + Sentences.power(p, most - 1));
            x.of(SUM, 0, 2);
            S.tells(x, 4, 0, -1, most, 1);
            x.of(LESS, 2, 0);
            S.tells(x, 5, 0, -1, most, Sentences.power(p, most) - 1);
            x.of(LESS, 1, 0);
            S.tells(x, 6, 0, -1, most, Sentences.power(p, most - 1) - 1);
            x.ratio(1, p * p);
            x.number(most - 2, p - 1, most);
            x.of(SUM, 7, 8);
            S.tells(x, 9, 0, -2, most, 1);
            // Of K figures p - 1 the lowest alone has room above the 1.
            x.number(most - 2, Sentences.power(p, most) - 1, most);
            x.of(SUM, 0, 10);
            S.tells(x, 11, 0, -1, most, 1 + (p - 1) * Sentences.power(p, most - 1));
            x.of(LESS, 0, 10);
            S.tells(x, 12, 0, -1, most, 1 + Sentences.power(p, most - 1));
        }
    }

    private static void near() {
        for (int p : PRIMES) {
            LeftNumbers x = Benches.empty(p);
            x.ratio(1, 1);
            x.ratio(1 + p * p, 1);
            x.number(0, 1, 4);
            x.number(0, 1 + p * p, 4);
            for (int i = 0; i < 4; i += 2) {
                for (int j = 1; j < 4; j += 2) {
                    S.due("by 2", x.near(i, j, 2), 1);
                    S.due("by 3", x.near(i, j, 3), 0);
                    S.due("by 2", x.near(j, i, 2), 1);
                    S.due("by 3", x.near(j, i, 3), 0);
                    S.due("by 100", x.near(j, i, 100), 0);
                    S.due("by -60", x.near(j, i, -60), 1);
                }
            }
            S.due("a RATIO and itself by 100", x.near(0, 0, 100), 1);
            x.ratio(0, 1);
            S.due("1 and 0 by 0", x.near(0, 4, 0), 1);
            S.due("1 and 0 by 1", x.near(0, 4, 1), 0);
        }
    }

    private static void nearNotKnown() {
        for (int p : PRIMES) {
            LeftNumbers x = Benches.mixed(p);
            S.due("itself by 4", x.near(Benches.NUMBER, Benches.NUMBER, 4), 1);
            S.due("itself by 5", x.near(Benches.NUMBER, Benches.NUMBER, 5), 2);
            S.due("a SHADOW by its end", x.near(Benches.RATIO, Benches.SHADOW, 6), 1);
            S.due("a SHADOW behind its end", x.near(Benches.RATIO, Benches.SHADOW, 7), 2);
            S.due("NOUGHTS by the lesser LIFT", x.near(Benches.NOUGHT, Benches.ROOT_AT_0, 3), 1);
            S.due("NOUGHTS behind the lesser LIFT", x.near(Benches.NOUGHT, Benches.ROOT_AT_0, 4), 2);
            S.due("p^60 by its end", x.near(Benches.HIGH, Benches.HIGH, 65), 1);
            S.due("p^60 behind its end", x.near(Benches.HIGH, Benches.HIGH, 66), 2);
            S.due("p^-60 by its end", x.near(Benches.LOW, Benches.LOW, -55), 1);
            S.due("p^-60 behind its end", x.near(Benches.LOW, Benches.LOW, -54), 2);
            S.due("of known figures that differ", x.near(Benches.LOW, Benches.NUMBER, -59), 0);
            S.due("a NOUGHT and 0 / 1 by 4", x.near(Benches.NIL, Benches.NOUGHT, 4), 1);
            S.due("a NOUGHT and 0 / 1 by 5", x.near(Benches.NIL, Benches.NOUGHT, 5), 2);
        }
    }

    private static void guessOfNought() {
        for (int nought : new int[] {Benches.NOUGHT, Benches.EMPTY_SHADOW, Benches.ROOT_AT_0}) {
            S.refused(5, "guess of NOUGHT " + nought, x -> x.guess(nought, 1), KIND);
            S.refused(5, "guess by 10^9 of NOUGHT " + nought, x -> x.guess(nought, TOP), KIND);
        }
        LeftNumbers x = Benches.mixed(5);
        S.due("guess of 0 / 1", x.guess(Benches.NIL, 1), NEXT);
        S.isRatio(x, NEXT, 0, 1);
    }

    private static void guessBound() {
        for (int sign = -1; sign <= 1; sign += 2) {
            int s = sign;
            LeftNumbers x = Benches.mixed(5, y -> greatSmall(y, s));
            for (int i = 0; i < 2; i++) {
                int place = NEXT + 2 * i + 1;
                int[] parts = {x.part(place - 1, 0), x.part(place - 1, 1)};
                int made = x.guess(place, 1000);
                S.isRatio(x, made, parts[0], parts[1]);
                S.due("guess by 1000", x.part(made, i), i == 0 ? 1000 * s : 1000);
                S.refused(5, y -> greatSmall(y, s), "guess by 999", y -> y.guess(place, 999), NONE);
            }
        }
        LeftNumbers x = Benches.empty(3);
        x.number(0, 2, 1);
        S.due("-1 by 1", x.guess(0, 1), 1);
        S.isRatio(x, 1, -1, 1);
    }

    /** With 1000 / 7 and its lowest 10 figures, 7 / 1000 and its. */
    private static void greatSmall(LeftNumbers x, int sign) {
        x.ratio(1000 * sign, 7);
        x.shadow(NEXT, 10);
        x.ratio(7 * sign, 1000);
        x.shadow(NEXT + 2, 10);
    }

    private static void guessIsNear() {
        for (int p : PRIMES) {
            LeftNumbers x = Benches.empty(p);
            int bound = 2 * p * p;
            int n = 1;
            for (; BigInteger.valueOf(p).pow(n).compareTo(BigInteger.valueOf(2L * bound * bound)) <= 0; n++) { }
            x.number(2, 1, n);
            x.number(-2, 1, n);
            S.due("p^2", x.guess(0, bound), 2);
            S.isRatio(x, 2, p * p, 1);
            S.due("p^-2", x.guess(1, bound), 3);
            S.isRatio(x, 3, 1, p * p);
            S.due("p^2 by p^2", x.guess(0, p * p), 4);
            S.due("p^2 by p^2 - 1", x.guess(0, p * p - 1), NONE);
            S.due("p^-2 by p^2", x.guess(1, p * p), 5);
            S.due("p^-2 by p^2 - 1", x.guess(1, p * p - 1), NONE);
            x.number(60, 1, n);
            S.due("p^60", x.guess(6, bound), NONE);
            x.number(-60, 1, n);
            S.due("p^-60", x.guess(7, bound), NONE);
            S.due("near by v + n", x.near(0, 2, 2 + n), 1);
            // 1 is NEAR this one by n - 1 figures, but not by n.
            x.number(0, 1 + Sentences.power(p, n - 1), n);
            S.due("1 + p^(n - 1)", x.guess(8, bound), NONE);
        }
    }

    private static void guessOfRatio() {
        LeftNumbers x = Benches.mixed(5);
        S.due("37 / 41 by 41", x.guess(Benches.RATIO, 41), NEXT);
        S.isRatio(x, NEXT, 37, 41);
        S.refused(5, "37 / 41 by 40", y -> y.guess(Benches.RATIO, 40), NONE);
        for (int sign = -1; sign <= 1; sign += 2) {
            int s = sign;
            x = Benches.mixed(5, y -> y.ratio(41 * s, 37));
            S.due("41 / 37 by 41", x.guess(NEXT, 41), NEXT + 1);
            S.isRatio(x, NEXT + 1, 41 * s, 37);
            S.refused(5, y -> y.ratio(41 * s, 37), "41 / 37 by 40", y -> y.guess(NEXT, 40), NONE);
        }
        x = Benches.empty(5);
        x.ratio(1, 1);
        S.due("1 by 1", x.guess(0, 1), 1);
        S.isRatio(x, 1, 1, 1);
    }

    /** The greatest B with 2 B B below p^n; 0, if there is none. */
    private static int greatestBound(int p, int n) {
        BigInteger half = BigInteger.valueOf(p).pow(n).subtract(BigInteger.ONE).shiftRight(1);
        return half.sqrt().intValueExact();
    }

    private static void guessTooGreat() {
        for (int prime : PRIMES) {
            int p = prime, most = new LeftNumbers().prime(p);
            for (int figures = 1; figures <= most; figures++) {
                int n = figures, bound = greatestBound(p, n);
                LeftNumbers x = Benches.empty(p);
                x.number(0, 1, n);
                if (bound > 0) {
                    S.due("1 of " + n + " figures to " + p + " by " + bound, x.guess(0, bound), 1);
                    S.isRatio(x, 1, 1, 1);
                }
                S.due("1 of " + n + " figures to " + p + " by " + (bound + 1), x.guess(0, bound + 1), BAD);
            }
        }
        S.refused(2, x -> x.number(0, 1, 1), "2 is not below 2", x -> x.guess(NEXT, 1), BAD);
        S.refused(2, x -> x.number(0, 1, 3), "8 is not below 8", x -> x.guess(NEXT, 2), BAD);
        S.refused(2, x -> x.number(0, 1, 59), "2^59 is not below 2^59", x -> x.guess(NEXT, 1 << 29), BAD);
        S.refused(3, x -> x.number(0, 1, 2), "18 is not below 9", x -> x.guess(NEXT, 3), BAD);
    }

    private static void guessTooGreatOfRatio() {
        for (int prime : PRIMES) {
            int p = prime, most = new LeftNumbers().prime(p), bound = greatestBound(p, most);
            LeftNumbers x = Benches.mixed(p);
            S.due("37 / 41 by the greatest", x.guess(Benches.RATIO, bound), NEXT);
            S.isRatio(x, NEXT, 37, 41);
            S.due("0 / 1 by the greatest", x.guess(Benches.NIL, bound), NEXT + 1);
            S.refused(p, "37 / 41 by one more", y -> y.guess(Benches.RATIO, bound + 1), BAD);
            S.refused(p, "0 / 1 by one more", y -> y.guess(Benches.NIL, bound + 1), BAD);
        }
    }

    private static void roundOfNil() {
        for (int what = 0; what < 2; what++) {
            int w = what;
            S.refused(5, "round(0 / 1, " + w + ")", x -> x.round(Benches.NIL, w), KIND);
            LeftNumbers x = Benches.empty(5);
            x.ratio(5, 1);
            x.ratio(-5, 1);
            S.due("of 5", x.round(0, w), 1);
            S.due("of -5", x.round(1, w), w);
        }
    }

    private static void comesRound(int p, int up, int low, int start, int period) {
        LeftNumbers x = Benches.empty(p);
        x.ratio(up, low);
        S.due("round of " + up + " / " + low + " to " + p, x.round(0, 0), start);
        S.due("period of " + up + " / " + low + " to " + p, x.round(0, 1), period);
    }

    private static void roundFromLift() {
        for (int p : PRIMES) {
            comesRound(p, p * p, 1, 1, 1);
            comesRound(p, 1, p * p, 1, 1);
            comesRound(p, -p * p, 1, 0, 1);
            comesRound(p, -1, p * p, 0, 1);
            comesRound(p, p * (p + 1), 1, 2, 1);
            comesRound(p, p + 1, p, 2, 1);
        }
    }

    private static void leastRound() {
        for (int p : PRIMES) {
            comesRound(p, 1, 1, 1, 1);
            comesRound(p, -1, 1, 0, 1);
            comesRound(p, -p - 1, 1, 2, 1);
            comesRound(p, p * p - 1, 1, 2, 1);
            comesRound(p, p * p + 1, 1, 3, 1);
            comesRound(p, -1, p * p - 1, 0, 2);
            comesRound(p, 1, p * p - 1, 1, 2);
        }
        comesRound(2, -2, 3, 0, 2);
        comesRound(2, -4, 3, 0, 2);
        comesRound(2, -5, 3, 2, 2);
        comesRound(5, -6, 7, 0, 6);
        comesRound(5, -8, 7, 1, 6);
    }

    private static void leastPeriod() {
        for (int p : PRIMES) {
            comesRound(p, -1, p + 1, 0, 2);
            comesRound(p, -1, p * p + 1, 0, 4);
            comesRound(p, -1, p * p * p - 1, 0, 3);
            if (p != 2) {
                comesRound(p, -1, p - 1, 0, 1);
                comesRound(p, 1, p - 1, 1, 1);
            }
        }
    }

    private static void longRound() {
        comesRound(31, -1, 4001, 0, 2000);
        comesRound(31, 1, 4001, NONE, NONE);
        comesRound(5, -1, 8201, NONE, NONE);
        comesRound(5, -1, 19991, 0, 1999);
        comesRound(5, 1, 19991, 1, 1999);
        comesRound(5, -19992, 19991, 1, 1999);
        comesRound(5, 19996, 19991, NONE, NONE);
        comesRound(5, -19996, 19991, NONE, NONE);
        comesRound(2, 7673795, 1987, 13, 1986);
        comesRound(2, 15814534, 1987, 14, 1986);
        comesRound(2, 15812547, 1987, NONE, NONE);
        for (int what = 0; what < 2; what++) {
            int w = what;
            S.refused(31, x -> x.ratio(1, 4001), "round of 1 / 4001", x -> x.round(NEXT, w), NONE);
        }
    }
}
