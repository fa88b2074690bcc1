import java.util.Random;
import java.util.function.ToLongFunction;

/** Arguments from all of int and long, whatever the bench holds: nothing is thrown, and Model answers the same. */
public final class WildTest {
    private static final int RUNS = 1100;
    // What an object answers behind its 512th call is free; a round has two calls at most.
    private static final int CALLS = 512 - 1;
    private static final int METHODS = 23;
    private static final int[] PRIMES = {2, 3, 5, 7, 11, 13, 17, 19, 23, 29, 31};
    // About each bound of the document. Between 12 and 10^9 Model's guess, by trying, would not end soon.
    private static final int[] EDGES = {
        Integer.MIN_VALUE, Integer.MIN_VALUE + 1, -1000000001, -1000000000, -1000001, -1000000, -101, -100, -61, -60,
        -2, -1, 0, 1, 2, 3, 4, 5, 7, 8, 12, 1000000000, 1000000001, Integer.MAX_VALUE - 1, Integer.MAX_VALUE,
    };
    private static final int[] MORE_EDGES = {
        13, 14, 25, 26, 30, 31, 32, 37, 38, 58, 59, 60, 61, 100, 101, 1000, 1001, 1000000, 1000001, 999999999,
    };
    private static final Check CHECK = new Check();

    private final Random random;
    private final LeftNumbers real = new LeftNumbers();
    private final Model model = new Model();
    private int calls = 0;

    private WildTest(long seed) {
        random = new Random(seed);
    }

    public static void main(String[] args) {
        for (int seed = 0; seed < RUNS && !CHECK.isWrong(); seed++) {
            WildTest test = new WildTest(seed);
            test.bench(PRIMES[seed % PRIMES.length], seed % 3);
            while (test.calls < CALLS && !CHECK.isWrong()) {
                test.call(test.random.nextInt(METHODS));
            }
        }
        CHECK.end();
    }

    private void both(String call, ToLongFunction<LeftNumbers> ofReal, ToLongFunction<Model> ofModel) {
        calls++;
        CHECK.due(call, ofReal.applyAsLong(real), ofModel.applyAsLong(model));
    }

    /** Empty (0), with one of each KIND and NOUGHTS (1), full (2). */
    private void bench(int p, int sort) {
        both("prime", x -> x.prime(p), x -> x.prime(p));
        if (sort == 0) {
            return;
        }
        both("ratio", x -> x.ratio(22, 7), x -> x.ratio(22, 7));
        both("ratio", x -> x.ratio(0, 1), x -> x.ratio(0, 1));
        both("number", x -> x.number(60, 1, 3), x -> x.number(60, 1, 3));
        both("number", x -> x.number(-60, 1, 3), x -> x.number(-60, 1, 3));
        both("number", x -> x.number(0, 0, 4), x -> x.number(0, 0, 4));
        both("shadow", x -> x.shadow(0, 5), x -> x.shadow(0, 5));
        both("coefficient", x -> x.coefficient(1, 1), x -> x.coefficient(1, 1));
        both("root", x -> x.root(0, 3), x -> x.root(0, 3));
        both("coefficient", x -> x.coefficient(7, -1), x -> x.coefficient(7, -1));
        while (sort == 2 && model.count(2) < 60) {
            int up = model.count(2);
            both("ratio", x -> x.ratio(up, 1), x -> x.ratio(up, 1));
        }
    }

    private int edge() {
        return EDGES[random.nextInt(EDGES.length)];
    }

    private int wild() {
        int sort = random.nextInt(8);
        return sort == 0 ? random.nextInt() : sort < 3 ? MORE_EDGES[random.nextInt(MORE_EDGES.length)] : edge();
    }

    private long wildLong() {
        long[] edges = {Long.MIN_VALUE, -1, 0, 1, 1L << 59, 1000000000000000000L, Long.MAX_VALUE, wild()};
        return random.nextInt(4) == 0 ? random.nextLong() : edges[random.nextInt(edges.length)];
    }

    private void call(int method) {
        if (method < 8) {
            threeOrMore(method);
        } else if (method < 16) {
            two(method, wild(), wild());
        } else {
            one(method, wild());
        }
    }

    private void threeOrMore(int method) {
        int a = wild(), b = wild(), c = wild(), way = random.nextInt(6) - 1;
        long bits = wildLong();
        switch (method) {
            case 0, 1 -> both("number(" + a + ", " + bits + ", " + c + ")",
                x -> x.number(a, bits, c), x -> x.number(a, bits, c));
            case 2, 3 -> both("near(" + a + ", " + b + ", " + c + ")", x -> x.near(a, b, c), x -> x.near(a, b, c));
            case 4 -> both("of(" + a + ", " + b + ", " + c + ")", x -> x.of(a, b, c), x -> x.of(a, b, c));
            default -> both("of(" + way + ", " + b + ", " + c + ")", x -> x.of(way, b, c), x -> x.of(way, b, c));
        }
    }

    private void two(int method, int a, int b) {
        int bound = edge();
        String given = "(" + a + ", " + b + ")";
        switch (method) {
            case 8 -> both("ratio" + given, x -> x.ratio(a, b), x -> x.ratio(a, b));
            case 9 -> both("shadow" + given, x -> x.shadow(a, b), x -> x.shadow(a, b));
            case 10 -> both("figure" + given, x -> x.figure(a, b), x -> x.figure(a, b));
            case 11 -> both("part" + given, x -> x.part(a, b), x -> x.part(a, b));
            case 12 -> both("guess(" + a + ", " + bound + ")", x -> x.guess(a, bound), x -> x.guess(a, bound));
            case 13 -> both("round" + given, x -> x.round(a, b), x -> x.round(a, b));
            case 14 -> both("coefficient" + given, x -> x.coefficient(a, b), x -> x.coefficient(a, b));
            default -> {
                both("root" + given, x -> x.root(a, b), x -> x.root(a, b));
                both("more" + given, x -> x.more(a, b), x -> x.more(a, b));
            }
        }
    }

    private void one(int method, int a) {
        String given = "(" + a + ")";
        switch (method) {
            case 16 -> both("kind" + given, x -> x.kind(a), x -> x.kind(a));
            case 17 -> both("lift" + given, x -> x.lift(a), x -> x.lift(a));
            case 18 -> both("sure" + given, x -> x.sure(a), x -> x.sure(a));
            case 19 -> both("told" + given, x -> x.told(a), x -> x.told(a));
            case 20 -> both("at" + given, x -> x.at(a), x -> x.at(a));
            case 21 -> both("square" + given, x -> x.square(a), x -> x.square(a));
            default -> seldom(random.nextInt(12), a);
        }
    }

    private void seldom(int choice, int a) {
        String given = "(" + a + ")";
        if (choice < 3) {
            both("unit" + given, x -> x.unit(a), x -> x.unit(a));
        } else if (choice < 6) {
            both("firsts" + given, x -> x.firsts(a), x -> x.firsts(a));
        } else if (choice < 9) {
            both("count" + given, x -> x.count(a), x -> x.count(a));
        } else if (choice < 11) {
            both("undo()", LeftNumbers::undo, Model::undo);
        } else {
            both("prime" + given, x -> x.prime(a), x -> x.prime(a));
        }
    }
}
