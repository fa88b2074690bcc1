import java.util.function.Consumer;

/** Benches with a NUMBER of each sort, always at the same place; each call makes the same one anew. */
final class Benches {
    static final int[] PRIMES = {2, 3, 5, 7, 11, 13, 17, 19, 23, 29, 31};
    static final int PLACES = 60;

    /** 37 / 41, of LIFT 0 to every PRIME. */
    static final int RATIO = 0;
    /** 0 / 1. */
    static final int NIL = 1;
    /** 1, known modulo p^4. */
    static final int NUMBER = 2;
    /** 0 modulo p^4. */
    static final int NOUGHT = 3;
    /** 1 + p, known modulo p^5. */
    static final int ROOT = 4;
    /** 37 / 41, known modulo p^6. */
    static final int SHADOW = 5;
    /** p^60, SURE 5. */
    static final int HIGH = 6;
    /** p^-60, SURE 5. */
    static final int LOW = 7;
    /** A SHADOW that is 0 modulo p^0. */
    static final int EMPTY_SHADOW = 8;
    /** A ROOT that is 0 modulo p^3. */
    static final int ROOT_AT_0 = 9;
    /** How many they are; also where the next one comes. */
    static final int NEXT = 10;

    private Benches() { }

    static LeftNumbers empty(int p) {
        LeftNumbers x = new LeftNumbers();
        x.prime(p);
        return x;
    }

    /** THE POLYNOMIAL is left as x x - x, for which 0 and 1 are GOOD to every PRIME. */
    static LeftNumbers mixed(int p, Consumer<LeftNumbers> further) {
        LeftNumbers x = empty(p);
        x.ratio(37, 41);
        x.ratio(0, 1);
        x.number(0, 1, 4);
        x.number(0, 0, 4);
        x.coefficient(1, 1);
        x.coefficient(0, -1 - p);
        x.root(1, 5);
        x.shadow(RATIO, 6);
        x.number(60, 1, 5);
        x.number(-60, 1, 5);
        x.shadow(NUMBER, 0);
        x.coefficient(0, 0);
        x.root(0, 3);
        x.coefficient(1, -1);
        x.coefficient(2, 1);
        further.accept(x);
        return x;
    }

    static LeftNumbers mixed(int p) {
        return mixed(p, x -> { });
    }

    /** The same, but the last that came went again, so that there is nothing to undo. */
    static LeftNumbers undone(int p, Consumer<LeftNumbers> further) {
        LeftNumbers x = mixed(p, further);
        x.ratio(5, 3);
        x.undo();
        return x;
    }

    /** The same, with as many more as there is room for. */
    static LeftNumbers full(int p, Consumer<LeftNumbers> further) {
        LeftNumbers x = mixed(p, further);
        for (int i = x.count(2); i < PLACES; i++) {
            x.ratio(i, 1);
        }
        return x;
    }

    static LeftNumbers full(int p) {
        return full(p, x -> { });
    }

    /** The same, with one place left. */
    static LeftNumbers nearlyFull(int p, Consumer<LeftNumbers> further) {
        LeftNumbers x = full(p, further);
        x.undo();
        return x;
    }
}
