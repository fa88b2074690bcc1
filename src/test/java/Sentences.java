import java.math.BigInteger;
import java.util.ArrayList;
import java.util.List;
import java.util.function.Consumer;
import java.util.function.Supplier;
import java.util.function.ToLongFunction;

/** One test for each sentence of the document that names a boundary. */
final class Sentences {
    private final Check check = new Check();
    private String words = "";
    private int sentences = 0;
    private int answers = 0;

    void sentence(String itsWords, Runnable test) {
        int before = answers;
        words = itsWords;
        sentences++;
        test.run();
        check.holds(words + ": is looked at", answers > before);
    }

    void end() {
        System.out.println(sentences + " sentences");
        check.end();
    }

    void due(String call, long got, long want) {
        answers++;
        check.due(words + ": " + call, got, want);
    }

    void tells(LeftNumbers x, int i, int kind, int lift, int sure, long told) {
        due("kind(" + i + ")", x.kind(i), kind);
        due("lift(" + i + ")", x.lift(i), lift);
        due("sure(" + i + ")", x.sure(i), sure);
        due("told(" + i + ")", x.told(i), told);
    }

    void isRatio(LeftNumbers x, int i, int up, int low) {
        due("kind(" + i + ")", x.kind(i), 1);
        due("part(" + i + ", 0)", x.part(i, 0), up);
        due("part(" + i + ", 1)", x.part(i, 1), low);
    }

    /** up / low, all of it known, as the NUMBER with K figures. */
    void isNumberOf(LeftNumbers x, int i, long up, long low) {
        int p = x.count(0), most = x.count(1);
        tells(x, i, 0, times(p, up) - times(p, low), most, unit(p, up, low, most));
    }

    /** A call that the first of the refusals fits, ahead of FULL, wherever it is made; nothing changes. */
    void refused(int p, Consumer<LeftNumbers> further, String call, ToLongFunction<LeftNumbers> doing, long answer) {
        changesNothing(() -> Benches.mixed(p, further), call, doing, answer);
        changesNothing(() -> Benches.undone(p, further), call + ", nothing to undo", doing, answer);
        changesNothing(() -> Benches.full(p, further), call + ", a full bench", doing, answer);
    }

    void refused(int p, String call, ToLongFunction<LeftNumbers> doing, long answer) {
        refused(p, x -> { }, call, doing, answer);
    }

    /** A call that makes a LIFT beyond its bounds; on a full bench FULL is told ahead of that. */
    void beyond(int p, Consumer<LeftNumbers> further, String call, ToLongFunction<LeftNumbers> doing) {
        changesNothing(() -> Benches.mixed(p, further), call, doing, LeftNumbers.BEYOND);
        changesNothing(() -> Benches.undone(p, further), call + ", nothing to undo", doing, LeftNumbers.BEYOND);
        full(p, further, call, doing);
    }

    void beyond(int p, String call, ToLongFunction<LeftNumbers> doing) {
        beyond(p, x -> { }, call, doing);
    }

    void full(int p, Consumer<LeftNumbers> further, String call, ToLongFunction<LeftNumbers> doing) {
        changesNothing(() -> Benches.full(p, further), call + ", a full bench", doing, LeftNumbers.FULL);
    }

    /** A call that makes a NUMBER: the 60th has room, the 61st has none. */
    void fillsTheLastPlace(int p, Consumer<LeftNumbers> further, String call, ToLongFunction<LeftNumbers> doing) {
        LeftNumbers x = Benches.nearlyFull(p, further);
        due("NUMBERS before " + call, x.count(2), 59);
        due(call + " with room for one", doing.applyAsLong(x), 59);
        due("NUMBERS behind " + call, x.count(2), 60);
        due("undo behind " + call, x.count(3), 1);
        full(p, further, call, doing);
    }

    void fillsTheLastPlace(int p, String call, ToLongFunction<LeftNumbers> doing) {
        fillsTheLastPlace(p, x -> { }, call, doing);
    }

    /** Of two benches that are made alike, one gets the call, twice; then they must be alike still. */
    void changesNothing(Supplier<LeftNumbers> bench, String call, ToLongFunction<LeftNumbers> doing, long answer) {
        LeftNumbers touched = bench.get();
        due(call, doing.applyAsLong(touched), answer);
        due(call + " once more", doing.applyAsLong(touched), answer);
        List<Long> now = state(touched), before = state(bench.get());
        due(call + " changes something", now.equals(before) ? 0 : 1, 0);
    }

    /** All that can be seen of a bench; it is used up by that, but stays within its 512 calls. */
    static List<Long> state(LeftNumbers x) {
        List<Long> all = new ArrayList<>();
        for (int what = 0; what < 4; what++) {
            all.add((long) x.count(what));
        }
        int held = x.count(2), most = x.count(1);
        for (int i = 0; i < held; i++) {
            all.addAll(number(x, i));
        }
        for (int i = 0; i < held; i++) {
            // A ROOT tells its polynomial only when it is made to know more.
            if (all.get(4 + 6 * i) == 2) {
                all.add((long) x.more(i, most));
                all.add(x.told(i));
            }
        }
        for (int i = 0; i < 8; i++) {
            all.add((long) x.coefficient(i, 0));
        }
        all.add((long) x.undo());
        all.add((long) x.undo());
        return all;
    }

    static List<Long> number(LeftNumbers x, int i) {
        return List.of((long) x.kind(i), (long) x.lift(i), (long) x.sure(i), x.told(i),
            (long) x.part(i, 0), (long) x.part(i, 1));
    }

    static long power(int p, int n) {
        return BigInteger.valueOf(p).pow(n).longValueExact();
    }

    static int times(int p, long a) {
        int times = 0;
        for (long rest = a; rest % p == 0; rest /= p) {
            times++;
        }
        return times;
    }

    /** u of up / low modulo p^n. */
    static long unit(int p, long up, long low, int n) {
        BigInteger modulus = BigInteger.valueOf(p).pow(n);
        BigInteger inverse = BigInteger.valueOf(low / power(p, times(p, low))).modInverse(modulus);
        return BigInteger.valueOf(up / power(p, times(p, up))).multiply(inverse).mod(modulus).longValueExact();
    }
}
