import java.math.BigInteger;
import java.util.Random;

/**
 * Promise 14 with great bounds: a fraction's SHADOW gives it back, and by a bound below its parts nothing; what is
 * guessed of any figures is within the bound and NEAR them.
 */
public final class GuessTest {
    private static final int[] PRIMES = {2, 3, 5, 7, 11, 13, 17, 19, 23, 29, 31};
    private static final int FRACTIONS = 2000;
    private static final Check CHECK = new Check();

    public static void main(String[] args) {
        Random random = new Random(14);
        for (int p : PRIMES) {
            for (int i = 0; i < FRACTIONS; i++) {
                LeftNumbers x = new LeftNumbers();
                guessBack(x, p, 1 + random.nextInt(x.prime(p)), random);
                LeftNumbers y = new LeftNumbers();
                guessAny(y, p, 1 + random.nextInt(y.prime(p)), random);
            }
        }
        CHECK.end();
    }

    private static void guessBack(LeftNumbers x, int p, int n, Random random) {
        int bound = greatestBound(p, n);
        if (bound < 1) {
            return;
        }
        int up = 1 + random.nextInt(bound);
        int low = 1 + random.nextInt(bound);
        x.ratio(random.nextBoolean() ? up : -up, low);
        int leastUp = x.part(0, 0), leastLow = x.part(0, 1);
        x.shadow(0, n);
        String name = leastUp + " / " + leastLow + ", p " + p + ", n " + n;
        CHECK.due(name, x.guess(1, bound), 2);
        CHECK.due(name + " up", x.part(2, 0), leastUp);
        CHECK.due(name + " low", x.part(2, 1), leastLow);
        int greater = Math.max(Math.abs(leastUp), leastLow);
        CHECK.due(name + " just within", x.guess(1, greater), 3);
        if (greater > 1) {
            CHECK.due(name + " just without", x.guess(1, greater - 1), LeftNumbers.NONE);
        }
        CHECK.due(name + " too great", x.guess(1, bound + 1), LeftNumbers.BAD);
    }

    private static void guessAny(LeftNumbers x, int p, int n, Random random) {
        int bound = greatestBound(p, n);
        int lift = random.nextInt(7) - 3;
        x.number(lift, (random.nextLong() >>> 2) / p * p + 1, n);
        String name = x.told(0) + ", p " + p + ", lift " + lift + ", n " + n;
        if (bound < 1) {
            CHECK.due(name + " no bound", x.guess(0, 1), LeftNumbers.BAD);
            return;
        }
        if (x.guess(0, bound) != 1) {
            CHECK.due(name + " none", x.guess(0, bound), LeftNumbers.NONE);
            return;
        }
        CHECK.due(name + " kind", x.kind(1), 1);
        CHECK.holds(name + " up", Math.abs(x.part(1, 0)) <= bound);
        CHECK.holds(name + " low", x.part(1, 1) <= bound);
        CHECK.due(name + " near", x.near(0, 1, lift + n), 1);
    }

    private static int greatestBound(int p, int n) {
        BigInteger half = BigInteger.valueOf(p).pow(n).subtract(BigInteger.ONE).shiftRight(1);
        return half.sqrt().intValueExact();
    }
}
