import java.math.BigInteger;
import java.util.ArrayList;
import java.util.HashMap;
import java.util.List;
import java.util.Map;

/** The document once more, by whole numbers of any length and by trying, for ModelTest to compare with. */
final class Model {
    private static final BigInteger ONE = BigInteger.ONE, NIL = BigInteger.ZERO;
    private static final BigInteger PART = BigInteger.valueOf(1000000000);
    private static final int FOREVER = 100000;

    /** What is known: up / low modulo p^end; a RATIO has no end. */
    private static final class Known {
        int kind, lift, sure, first;
        int[] poly;
        BigInteger u = NIL, up = NIL, low = ONE;

        boolean nought() {
            return kind != 1 && sure == 0;
        }

        boolean zero() {
            return kind == 1 && up.signum() == 0;
        }

        int end() {
            return kind == 1 ? FOREVER : lift + sure;
        }
    }

    private final List<Known> all = new ArrayList<>();
    private int[] poly = new int[8];
    private BigInteger p = BigInteger.valueOf(5);
    private int most = 25;
    private boolean undoable = false;

    private BigInteger pow(int n) {
        return p.pow(n);
    }

    private Known get(int x) {
        return x >= 0 && x < all.size() ? all.get(x) : null;
    }

    private int come(Known k) {
        if (all.size() == 60) {
            return -6;
        }
        if (k.lift > 60 || k.lift < -60) {
            return -7;
        }
        all.add(k);
        undoable = true;
        return all.size() - 1;
    }

    private int order(BigInteger a) {
        int n = 0;
        for (BigInteger b = a; b.mod(p).signum() == 0; b = b.divide(p)) {
            n++;
        }
        return n;
    }

    private BigInteger bare(BigInteger a) {
        return a.divide(pow(order(a)));
    }

    /** up / low as far as it is known modulo p^end, at most K figures of it. */
    private Known known(BigInteger up, BigInteger low, int end, int kind) {
        Known k = new Known();
        k.kind = kind;
        if (up.signum() == 0 || order(up) - order(low) >= end) {
            k.lift = end;
            return k;
        }
        k.lift = order(up) - order(low);
        k.sure = Math.min(most, end - k.lift);
        k.u = bare(up).multiply(bare(low).modInverse(pow(k.sure))).mod(pow(k.sure));
        return k;
    }

    private Known fraction(BigInteger up, BigInteger low) {
        BigInteger g = up.gcd(low).multiply(BigInteger.valueOf(low.signum()));
        BigInteger a = up.divide(g), b = low.divide(g);
        boolean fits = a.abs().compareTo(PART) <= 0 && b.compareTo(PART) <= 0;
        Known k = a.signum() == 0 ? new Known() : known(a, b, FOREVER, 0);
        if (a.signum() == 0) {
            k.lift = 60;
            k.sure = most;
        }
        if (fits) {
            k.kind = 1;
            k.up = a;
            k.low = b;
        }
        return k;
    }

    private Known fraction(long up, long low) {
        return fraction(BigInteger.valueOf(up), BigInteger.valueOf(low));
    }

    /** Something that is the same as k as far as k is known. */
    private BigInteger[] stand(Known k) {
        if (k.kind == 1) {
            return new BigInteger[] {k.up, k.low};
        }
        return k.lift >= 0 ? new BigInteger[] {k.u.multiply(pow(k.lift)), ONE} : new BigInteger[] {k.u, pow(-k.lift)};
    }

    private Known sum(Known x, Known y, boolean less) {
        BigInteger[] a = stand(x), b = stand(y);
        BigInteger right = b[0].multiply(a[1]);
        BigInteger up = a[0].multiply(b[1]).add(less ? right.negate() : right);
        BigInteger low = a[1].multiply(b[1]);
        if (x.kind == 1 && y.kind == 1) {
            return fraction(up, low);
        }
        return known(up, low, Math.min(x.end(), y.end()), 0);
    }

    private Known product(Known x, Known y, boolean over) {
        if (x.kind == 1 && y.kind == 1) {
            return over ? fraction(x.up.multiply(y.low), x.low.multiply(y.up)) : fraction(x.up.multiply(y.up), x.low.multiply(y.low));
        }
        if (x.zero() || y.zero()) {
            return fraction(0, 1);
        }
        Known k = new Known();
        k.lift = over ? x.lift - y.lift : x.lift + y.lift;
        k.sure = Math.min(x.sure, y.sure);
        BigInteger m = pow(k.sure);
        k.u = k.sure == 0 ? NIL : x.u.multiply(over ? y.u.modInverse(m) : y.u).mod(m);
        return k;
    }

    int prime(int prime) {
        if (prime < 2 || prime > 31 || !BigInteger.valueOf(prime).isProbablePrime(20)) {
            return -2;
        }
        p = BigInteger.valueOf(prime);
        for (most = 0; pow(most + 1).compareTo(BigInteger.TEN.pow(18)) <= 0; most++) { }
        all.clear();
        undoable = false;
        poly = new int[8];
        return most;
    }

    int ratio(int up, int low) {
        if (low == 0 || Math.abs((long) up) > 1000000000 || Math.abs((long) low) > 1000000000) {
            return -2;
        }
        return come(fraction(up, low));
    }

    int number(int lift, long bits, int n) {
        if (lift < -60 || lift > 60 || bits < 0 || n < 1 || n > most) {
            return -2;
        }
        BigInteger up = BigInteger.valueOf(bits).mod(pow(n));
        return come(known(up.multiply(pow(lift + 60)), pow(60), lift + n, 0));
    }

    int shadow(int x, int n) {
        Known k = get(x);
        if (k == null || n < 0 || n > k.sure) {
            return -2;
        }
        if (k.nought() || k.zero()) {
            return -3;
        }
        BigInteger[] a = stand(k);
        return come(known(a[0], a[1], k.lift + n, 3));
    }

    int of(int way, int x, int y) {
        Known a = get(x), b = get(y);
        if (way < 0 || way > 3 || a == null || b == null) {
            return -2;
        }
        if (way == 3 && (b.nought() || b.zero())) {
            return -4;
        }
        return come(way < 2 ? sum(a, b, way == 1) : product(a, b, way == 3));
    }

    int kind(int x) {
        return get(x) == null ? -2 : get(x).kind;
    }

    int lift(int x) {
        return get(x) == null ? -100 : get(x).lift;
    }

    int sure(int x) {
        return get(x) == null ? -2 : get(x).sure;
    }

    long told(int x) {
        return get(x) == null ? -1 : get(x).u.longValueExact();
    }

    int part(int x, int what) {
        Known k = get(x);
        if (k == null || what < 0 || what > 1 || k.kind != 1) {
            return 0;
        }
        return (what == 0 ? k.up : k.low).intValueExact();
    }

    int figure(int x, int i) {
        Known k = get(x);
        if (k == null || i < -100 || i > 1000) {
            return -2;
        }
        if (i >= k.end()) {
            return -1;
        }
        if (k.zero() || i < k.lift) {
            return 0;
        }
        BigInteger u = k.u;
        if (k.kind == 1) {
            BigInteger m = pow(i - k.lift + 1);
            u = bare(k.up).multiply(bare(k.low).modInverse(m)).mod(m);
        }
        return u.divide(pow(i - k.lift)).mod(p).intValueExact();
    }

    int near(int x, int y, int k) {
        Known a = get(x), b = get(y);
        if (a == null || b == null || k < -60 || k > 100) {
            return -2;
        }
        Known d = sum(a, b, true);
        if (d.zero()) {
            return 1;
        }
        return k <= d.lift ? 1 : d.nought() ? 2 : 0;
    }

    /** By trying every low; so the bound is a small one. */
    int guess(int x, int bound) {
        Known k = get(x);
        if (k == null || bound < 1 || bound > 1000000000) {
            return -2;
        }
        if (k.nought()) {
            return -3;
        }
        BigInteger b = BigInteger.valueOf(bound);
        if (b.multiply(b).shiftLeft(1).compareTo(pow(k.sure)) >= 0) {
            return -2;
        }
        if (k.kind == 1) {
            return k.up.abs().max(k.low).compareTo(b) <= 0 ? come(fraction(k.up, k.low)) : -1;
        }
        int down = Math.max(0, -k.lift);
        int rise = Math.max(0, k.lift);
        BigInteger m = pow(k.sure);
        for (int low = 1; low <= bound; low++) {
            BigInteger whole = BigInteger.valueOf(low).multiply(pow(down));
            BigInteger up = k.u.multiply(BigInteger.valueOf(low)).mod(m);
            up = (up.shiftLeft(1).compareTo(m) > 0 ? up.subtract(m) : up).multiply(pow(rise));
            if (low % p.intValue() != 0 && whole.compareTo(b) <= 0 && up.abs().compareTo(b) <= 0) {
                return come(fraction(up, whole));
            }
        }
        return -1;
    }

    int round(int x, int what) {
        Known k = get(x);
        if (k == null || what < 0 || what > 1) {
            return -2;
        }
        if (k.kind != 1 || k.zero()) {
            return -3;
        }
        Map<BigInteger, Integer> seen = new HashMap<>();
        BigInteger low = bare(k.low), rest = bare(k.up), inverse = low.modInverse(p);
        for (int i = 0; i <= 2000; i++) {
            Integer before = seen.put(rest, i);
            if (before != null) {
                return what == 0 ? before : i - before;
            }
            rest = rest.subtract(rest.multiply(inverse).mod(p).multiply(low)).divide(p);
        }
        return -1;
    }

    int coefficient(int i, int c) {
        if (i < 0 || i > 7 || c < -1000000 || c > 1000000) {
            return 2000000;
        }
        int before = poly[i];
        poly[i] = c;
        return before;
    }

    int at(int x) {
        Known k = get(x);
        if (k == null) {
            return -2;
        }
        if (all.size() == 60) {
            return -6;
        }
        Known a = fraction(poly[7], 1);
        for (int i = 6; i >= 0; i--) {
            a = product(a, k, false);
            if (Math.abs(a.lift) > 60) {
                return -7;
            }
            a = sum(a, fraction(poly[i], 1), false);
            if (Math.abs(a.lift) > 60) {
                return -7;
            }
        }
        return come(a);
    }

    private static BigInteger value(int[] c, BigInteger x) {
        BigInteger v = NIL;
        for (int i = 0; i < c.length; i++) {
            v = v.add(x.pow(i).multiply(BigInteger.valueOf(c[i])));
        }
        return v;
    }

    private static BigInteger slope(int[] c, BigInteger x) {
        BigInteger v = NIL;
        for (int i = 1; i < c.length; i++) {
            v = v.add(x.pow(i - 1).multiply(BigInteger.valueOf((long) i * c[i])));
        }
        return v;
    }

    private boolean first(int f, boolean good) {
        BigInteger x = BigInteger.valueOf(f);
        return value(poly, x).mod(p).signum() == 0 && (slope(poly, x).mod(p).signum() != 0) == good;
    }

    int firsts(int what) {
        if (what < 0 || what > 1) {
            return -2;
        }
        int bits = 0;
        for (int f = 0; f < p.intValue(); f++) {
            bits += first(f, what == 0) ? 1 << f : 0;
        }
        return bits;
    }

    /** Figure by figure, each tried. */
    private BigInteger rootOf(int[] c, int f, int n) {
        BigInteger x = BigInteger.valueOf(f);
        for (int k = 1; k < n; k++) {
            while (value(c, x).mod(pow(k + 1)).signum() != 0) {
                x = x.add(pow(k));
            }
        }
        return x;
    }

    private Known rooted(int[] c, int f, int n) {
        Known k = known(rootOf(c, f, n), ONE, n, 2);
        k.first = f;
        k.poly = c;
        return k;
    }

    int root(int f, int n) {
        if (f < 0 || f >= p.intValue() || n < 1 || n > most) {
            return -2;
        }
        return first(f, true) ? come(rooted(poly.clone(), f, n)) : -1;
    }

    int more(int x, int n) {
        Known k = get(x);
        if (k == null || n < 1 || n > most) {
            return -2;
        }
        if (k.kind != 2) {
            return -3;
        }
        all.set(x, rooted(k.poly, k.first, n));
        return all.get(x).sure;
    }

    int square(int x) {
        Known k = get(x);
        if (k == null) {
            return -2;
        }
        if (k.nought() || k.zero()) {
            return -3;
        }
        if (Math.floorMod(k.lift, 2) == 1) {
            return -1;
        }
        boolean two = p.intValue() == 2;
        if (two && k.sure < 3) {
            return -5;
        }
        Known s = new Known();
        s.lift = k.lift / 2;
        s.sure = two ? k.sure - 1 : k.sure;
        BigInteger check = two ? BigInteger.valueOf(8) : p;
        BigInteger root = ONE;
        while (root.multiply(root).subtract(k.u).mod(check).signum() != 0) {
            root = root.add(ONE);
            if (root.compareTo(p) >= 0) {
                return -1;
            }
        }
        int ahead = two ? 1 : 0;
        for (int n = two ? 2 : 1; n < s.sure; n++) {
            while (root.multiply(root).subtract(k.u).mod(pow(n + 1 + ahead)).signum() != 0) {
                root = root.add(pow(n));
            }
        }
        s.u = root;
        return come(s);
    }

    int unit(int f) {
        if (f < 1 || f >= p.intValue()) {
            return -2;
        }
        Known k = new Known();
        k.sure = most;
        int[] power = new int[p.intValue()];
        power[0] = -1;
        power[p.intValue() - 1] += 1;
        k.u = p.intValue() == 2 ? ONE : rootOf(power, f, most);
        return come(k);
    }

    int undo() {
        if (!undoable) {
            return -3;
        }
        undoable = false;
        all.remove(all.size() - 1);
        return all.size();
    }

    int count(int what) {
        int[] counts = {p.intValue(), most, all.size(), undoable ? 1 : 0};
        return what < 0 || what > 3 ? -2 : counts[what];
    }
}
