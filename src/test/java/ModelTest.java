import java.util.Random;

/** Runs of chosen calls, the same ones always, each answer compared with that of Model. */
public final class ModelTest {
    private static final int RUNS = 4000;
    // What an object answers behind its 512th call is free; a round has eight at most.
    private static final int CALLS = 512 - 8;
    private static final int[] PRIMES = {2, 3, 5, 7, 11, 13, 17, 19, 23, 29, 31};
    private static final Check CHECK = new Check();

    private final Random random;
    private final LeftNumbers real = new LeftNumbers();
    private final Model model = new Model();
    private final StringBuilder run = new StringBuilder();
    private int p = 5;
    private int most = 25;
    private int calls = 0;

    private ModelTest(long seed) {
        random = new Random(seed);
    }

    public static void main(String[] args) {
        for (int seed = 0; seed < RUNS && !CHECK.isWrong(); seed++) {
            ModelTest test = new ModelTest(seed);
            if (seed % PRIMES.length != 0) {
                test.anotherPrime();
            }
            while (test.calls < CALLS && !CHECK.isWrong()) {
                test.round();
            }
            if (CHECK.isWrong()) {
                System.out.println("in run " + seed + ":" + test.run);
            }
        }
        CHECK.end();
    }

    private void due(String call, long got, long want) {
        calls++;
        run.append('\n').append(call).append(" = ").append(got);
        CHECK.due(call, got, want);
    }

    private int below(int n) {
        return random.nextInt(n);
    }

    /** Mostly one of those that are there, the later ones more often. */
    private int any() {
        int held = model.count(2);
        if (held == 0 || below(40) == 0) {
            return below(3) == 0 ? -1 : held;
        }
        return below(2) == 0 ? below(held) : Math.max(0, held - 1 - below(4));
    }

    private int part() {
        int size = below(5);
        int a = size == 0 ? below(7) : size == 1 ? below(1000) : size == 2 ? below(1000000001) : 1;
        for (int i = below(size > 2 ? 30 : 4); i > 0 && (long) a * p <= 1000000000; i--) {
            a *= p;
        }
        a = below(50) == 0 ? 1000000000 - below(3) + below(3) : a;
        return below(2) == 0 ? a : -a;
    }

    private int some(int least, int greatest) {
        return below(30) == 0 ? (below(2) == 0 ? least - 1 : greatest + 1) : least + below(greatest - least + 1);
    }

    private int someSure() {
        return below(2) == 0 ? some(1, Math.min(6, most)) : some(1, most);
    }

    private int someLift() {
        return below(3) == 0 ? some(-60, 60) : below(9) - 4;
    }

    private long bits() {
        long a = below(30) == 0 ? -1 : below(2) == 0 ? below(2000) : random.nextLong() >>> 1 + below(50);
        for (int i = below(6); i > 0 && a < Long.MAX_VALUE / p; i--) {
            a *= p;
        }
        return a;
    }

    private void round() {
        int held = model.count(2);
        int choice = below(100);
        if (choice < 40) {
            make(choice);
        } else if (choice < 64) {
            look(choice);
        } else {
            build(choice);
        }
        if (model.count(2) > held) {
            lookAtNew(held);
        }
    }

    private void lookAtNew(int x) {
        due("kind(" + x + ")", real.kind(x), model.kind(x));
        due("lift(" + x + ")", real.lift(x), model.lift(x));
        due("sure(" + x + ")", real.sure(x), model.sure(x));
        due("told(" + x + ")", real.told(x), model.told(x));
        if (model.kind(x) == 1) {
            due("part(" + x + ", 0)", real.part(x, 0), model.part(x, 0));
            due("part(" + x + ", 1)", real.part(x, 1), model.part(x, 1));
        }
    }

    private void make(int choice) {
        if (choice < 9) {
            int up = part(), low = part();
            due("ratio(" + up + ", " + low + ")", real.ratio(up, low), model.ratio(up, low));
        } else if (choice < 18) {
            int lift = someLift(), n = someSure();
            long bits = bits();
            due("number(" + lift + ", " + bits + ", " + n + ")", real.number(lift, bits, n), model.number(lift, bits, n));
        } else if (choice < 22) {
            int x = any();
            int n = some(0, Math.max(0, model.sure(x)));
            due("shadow(" + x + ", " + n + ")", real.shadow(x, n), model.shadow(x, n));
        } else {
            int way = some(0, 3), x = any(), y = any();
            due("of(" + way + ", " + x + ", " + y + ")", real.of(way, x, y), model.of(way, x, y));
        }
    }

    private void look(int choice) {
        int x = any();
        if (choice < 46) {
            int i = below(3) == 0 ? some(-100, 1000) : model.lift(x) - 2 + below(most + 4);
            due("figure(" + x + ", " + i + ")", real.figure(x, i), model.figure(x, i));
        } else if (choice < 54) {
            int y = any();
            int k = below(2) == 0 ? some(-60, 100) : Math.max(model.lift(x), -60) + below(most) - 1;
            due("near(" + x + ", " + y + ", " + k + ")", real.near(x, y, k), model.near(x, y, k));
        } else if (choice < 58) {
            int what = some(0, 1);
            due("round(" + x + ", " + what + ")", real.round(x, what), model.round(x, what));
        } else if (choice < 60) {
            int what = some(0, 1);
            due("part(" + x + ", " + what + ")", real.part(x, what), model.part(x, what));
        } else if (choice < 62) {
            due("sure(" + x + ")", real.sure(x), model.sure(x));
            due("told(" + x + ")", real.told(x), model.told(x));
        } else {
            int what = some(0, 3);
            due("count(" + what + ")", real.count(what), model.count(what));
        }
    }

    private void build(int choice) {
        int x = any();
        if (choice < 70) {
            int bound = below(30) == 0 ? below(2) * 1000000001 : 1 + below(below(2) == 0 ? 12 : 1500);
            due("guess(" + x + ", " + bound + ")", real.guess(x, bound), model.guess(x, bound));
        } else if (choice < 78) {
            int i = below(2) == 0 ? below(3) : some(0, 7);
            int c = below(3) == 0 ? 0 : below(2) == 0 ? below(2 * p) - p : some(-1000000, 1000000);
            due("coefficient(" + i + ", " + c + ")", real.coefficient(i, c), model.coefficient(i, c));
        } else if (choice < 82) {
            due("at(" + x + ")", real.at(x), model.at(x));
        } else if (choice < 84) {
            int what = some(0, 1);
            due("firsts(" + what + ")", real.firsts(what), model.firsts(what));
        } else if (choice < 88) {
            int good = model.firsts(0), n = someSure();
            int f = good == 0 || below(6) == 0 ? some(0, p - 1) : Integer.numberOfTrailingZeros(good);
            due("root(" + f + ", " + n + ")", real.root(f, n), model.root(f, n));
        } else if (choice < 91) {
            int n = someSure();
            for (int i = 0; i < 10 && model.kind(x) != 2; i++) {
                x = any();
            }
            due("more(" + x + ", " + n + ")", real.more(x, n), model.more(x, n));
            due("lift(" + x + ")", real.lift(x), model.lift(x));
            due("told(" + x + ")", real.told(x), model.told(x));
        } else if (choice < 95) {
            due("square(" + x + ")", real.square(x), model.square(x));
        } else if (choice < 97) {
            int f = some(1, p - 1);
            due("unit(" + f + ")", real.unit(f), model.unit(f));
        } else if (choice < 99) {
            due("undo()", real.undo(), model.undo());
        } else if (model.count(2) < 20 || below(2) == 0) {
            anotherPrime();
        }
    }

    private void anotherPrime() {
        int prime = below(10) == 0 ? below(40) : PRIMES[below(PRIMES.length)];
        due("prime(" + prime + ")", real.prime(prime), model.prime(prime));
        p = model.count(0);
        most = model.count(1);
    }
}
