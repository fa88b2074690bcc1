/** Each promise by its number: ordinary inputs, the edges that the document names, wrong inputs. */
public final class PromisesTest {
    private static final Check CHECK = new Check();

    private static void due(String call, long got, long want) {
        CHECK.due(call, got, want);
    }

    private static LeftNumbers of(int prime) {
        LeftNumbers x = new LeftNumbers();
        x.prime(prime);
        return x;
    }

    private static LeftNumbers full(int prime) {
        LeftNumbers x = of(prime);
        for (int i = 0; i < 60; i++) {
            due("fill ratio", x.ratio(i + 1, 1), i);
        }
        return x;
    }

    private static void tells(String name, LeftNumbers x, int i, int kind, int lift, int sure, long told) {
        due(name + " kind", x.kind(i), kind);
        due(name + " lift", x.lift(i), lift);
        due(name + " sure", x.sure(i), sure);
        due(name + " told", x.told(i), told);
    }

    private static void isRatio(String name, LeftNumbers x, int i, int up, int low) {
        due(name + " kind", x.kind(i), 1);
        due(name + " up", x.part(i, 0), up);
        due(name + " low", x.part(i, 1), low);
    }

    public static void main(String[] args) {
        promise1NewObject();
        promise2Prime();
        promise3Ratio();
        promise4Number();
        promise5Shadow();
        promise6Ratios();
        promise6SumsAndDifferences();
        promise6ProductsAndQuotients();
        promise6Refusals();
        promises7to9();
        promise10Figure();
        promise11Told();
        promise12Part();
        promise13Near();
        promise14Guess();
        promise15Round();
        promise16Coefficient();
        promise17At();
        promise17Beyond();
        promise18Firsts();
        promise19Root();
        promise20More();
        promise21Square();
        promise21SquareOfTwo();
        promise22Unit();
        promise23Undo();
        promise24Count();
        CHECK.end();
    }

    private static void promise1NewObject() {
        LeftNumbers x = new LeftNumbers();
        due("1 prime", x.count(0), 5);
        due("1 K", x.count(1), 25);
        due("1 numbers", x.count(2), 0);
        due("1 undo", x.count(3), 0);
        for (int i = 0; i < 8; i++) {
            due("1 coefficient", x.coefficient(i, 0), 0);
        }
    }

    private static void promise2Prime() {
        int[] primes = {2, 3, 5, 7, 11, 13, 17, 19, 23, 29, 31};
        int[] most = {59, 37, 25, 21, 17, 16, 14, 14, 13, 12, 12};
        LeftNumbers x = new LeftNumbers();
        for (int i = 0; i < primes.length; i++) {
            x.ratio(1, 3);
            x.coefficient(3, 7);
            due("2 prime " + primes[i], x.prime(primes[i]), most[i]);
            due("2 count(0)", x.count(0), primes[i]);
            due("2 count(1)", x.count(1), most[i]);
            due("2 count(2)", x.count(2), 0);
            due("2 count(3)", x.count(3), 0);
            due("2 undo", x.undo(), LeftNumbers.KIND);
            due("2 coefficient", x.coefficient(3, 0), 0);
        }
        x.ratio(4, 3);
        x.coefficient(2, 9);
        int[] bad = {0, 1, 4, 6, 9, 25, 27, 30, 32, 37, -2, -5, Integer.MIN_VALUE, Integer.MAX_VALUE};
        for (int p : bad) {
            due("2 prime " + p, x.prime(p), LeftNumbers.BAD);
        }
        due("2 kept prime", x.count(0), 31);
        due("2 kept number", x.part(0, 0), 4);
        due("2 kept undo", x.count(3), 1);
        due("2 kept coefficient", x.coefficient(2, 0), 9);
        due("2 the same prime", x.prime(31), 12);
        due("2 all go", x.count(2), 0);
    }

    private static void promise3Ratio() {
        LeftNumbers x = new LeftNumbers();
        due("3 ratio", x.ratio(6, -4), 0);
        isRatio("3 6/-4", x, 0, -3, 2);
        due("3 ratio", x.ratio(-1000000000, -1000000000), 1);
        isRatio("3 1", x, 1, 1, 1);
        due("3 ratio", x.ratio(0, -9), 2);
        isRatio("3 0", x, 2, 0, 1);
        tells("3 0", x, 2, 1, 60, 25, 0);
        due("3 ratio", x.ratio(-1000000000, 999999999), 3);
        isRatio("3 great", x, 3, -1000000000, 999999999);
        due("3 lift", x.lift(3), 9);
        due("3 ratio", x.ratio(7, -1000000000), 4);
        due("3 lift", x.lift(4), -9);
        due("3 low 0", x.ratio(5, 0), LeftNumbers.BAD);
        due("3 0 / 0", x.ratio(0, 0), LeftNumbers.BAD);
        due("3 up", x.ratio(1000000001, 1), LeftNumbers.BAD);
        due("3 up", x.ratio(-1000000001, 1), LeftNumbers.BAD);
        due("3 low", x.ratio(1, 1000000001), LeftNumbers.BAD);
        due("3 low", x.ratio(1, -1000000001), LeftNumbers.BAD);
        due("3 least", x.ratio(Integer.MIN_VALUE, Integer.MIN_VALUE), LeftNumbers.BAD);
        due("3 nothing came", x.count(2), 5);
        LeftNumbers y = full(5);
        due("3 full", y.ratio(1, 1), LeftNumbers.FULL);
        due("3 bad ahead of full", y.ratio(1, 0), LeftNumbers.BAD);
        due("3 still 60", y.count(2), 60);
    }

    private static void promise4Number() {
        LeftNumbers x = new LeftNumbers();
        due("4 number", x.number(-3, 7, 2), 0);
        tells("4 7", x, 0, 0, -3, 2, 7);
        due("4 modulo", x.number(0, 128, 3), 1);
        tells("4 128", x, 1, 0, 0, 3, 3);
        due("4 noughts", x.number(-60, 50, 4), 2);
        tells("4 50", x, 2, 0, -58, 2, 2);
        due("4 nought", x.number(1, 0, 25), 3);
        tells("4 0", x, 3, 0, 26, 0, 0);
        due("4 nought by modulo", x.number(5, 125, 3), 4);
        tells("4 125", x, 4, 0, 8, 0, 0);
        due("4 greatest", x.number(0, Long.MAX_VALUE, 25), 5);
        tells("4 greatest", x, 5, 0, 0, 25, Long.MAX_VALUE % 298023223876953125L);
        due("4 top", x.number(59, 0, 1), 6);
        tells("4 top", x, 6, 0, 60, 0, 0);
        due("4 beyond", x.number(60, 0, 1), LeftNumbers.BEYOND);
        due("4 beyond", x.number(59, 25, 3), LeftNumbers.BEYOND);
        due("4 not beyond", x.number(59, 5, 3), 7);
        tells("4 not beyond", x, 7, 0, 60, 2, 1);
        due("4 lift", x.number(61, 1, 1), LeftNumbers.BAD);
        due("4 lift", x.number(-61, 1, 1), LeftNumbers.BAD);
        due("4 lift", x.number(Integer.MIN_VALUE, 1, 1), LeftNumbers.BAD);
        due("4 bits", x.number(0, -1, 1), LeftNumbers.BAD);
        due("4 bits", x.number(0, Long.MIN_VALUE, 1), LeftNumbers.BAD);
        due("4 n", x.number(0, 1, 0), LeftNumbers.BAD);
        due("4 n", x.number(0, 1, 26), LeftNumbers.BAD);
        due("4 nothing came", x.count(2), 8);
        LeftNumbers y = full(2);
        due("4 full ahead of beyond", y.number(60, 2, 2), LeftNumbers.FULL);
        due("4 bad ahead of full", y.number(61, 2, 2), LeftNumbers.BAD);
    }

    private static void promise5Shadow() {
        LeftNumbers x = new LeftNumbers();
        x.number(3, 586, 5);
        due("5 shadow", x.shadow(0, 3), 1);
        tells("5 shadow", x, 1, 3, 3, 3, 86);
        due("5 whole", x.shadow(0, 5), 2);
        tells("5 whole", x, 2, 3, 3, 5, 586);
        due("5 none", x.shadow(0, 0), 3);
        tells("5 none", x, 3, 3, 3, 0, 0);
        due("5 of a shadow", x.shadow(1, 1), 4);
        tells("5 of a shadow", x, 4, 3, 3, 1, 1);
        due("5 n", x.shadow(0, 6), LeftNumbers.BAD);
        due("5 n", x.shadow(0, -1), LeftNumbers.BAD);
        due("5 x", x.shadow(5, 0), LeftNumbers.BAD);
        due("5 x", x.shadow(-1, 0), LeftNumbers.BAD);
        due("5 nought", x.shadow(3, 0), LeftNumbers.KIND);
        due("5 nought, n", x.shadow(3, 1), LeftNumbers.BAD);
        x.ratio(0, 1);
        due("5 0 / 1", x.shadow(5, 25), LeftNumbers.KIND);
        due("5 0 / 1", x.shadow(5, 0), LeftNumbers.KIND);
        due("5 0 / 1, n", x.shadow(5, 26), LeftNumbers.BAD);
        x.ratio(-1, 1);
        due("5 ratio", x.shadow(6, 25), 7);
        tells("5 ratio", x, 7, 3, 0, 25, 298023223876953124L);
        due("5 ratio, n", x.shadow(6, 26), LeftNumbers.BAD);
        due("5 full", full(3).shadow(1, 1), LeftNumbers.FULL);
    }

    private static void promise6Ratios() {
        LeftNumbers x = new LeftNumbers();
        x.ratio(1, 6);
        x.ratio(-3, 10);
        due("6 sum", x.of(0, 0, 1), 2);
        isRatio("6 sum", x, 2, -2, 15);
        due("6 less", x.of(1, 0, 1), 3);
        isRatio("6 less", x, 3, 7, 15);
        due("6 times", x.of(2, 0, 1), 4);
        isRatio("6 times", x, 4, -1, 20);
        due("6 over", x.of(3, 0, 1), 5);
        isRatio("6 over", x, 5, -5, 9);
        x.ratio(0, 1);
        due("6 0 times", x.of(2, 6, 1), 7);
        isRatio("6 0 times", x, 7, 0, 1);
        due("6 0 over", x.of(3, 6, 1), 8);
        isRatio("6 0 over", x, 8, 0, 1);
        x.ratio(1000000000, 1);
        x.ratio(1, 1);
        due("6 too great", x.of(0, 9, 10), 11);
        tells("6 too great", x, 11, 0, 0, 25, 1000000001L);
        due("6 not too great", x.of(1, 9, 10), 12);
        isRatio("6 not too great", x, 12, 999999999, 1);
        x.ratio(-1000000000, 1);
        due("6 too great below", x.of(1, 13, 10), 14);
        tells("6 too great below", x, 14, 0, 0, 25, 298023223876953125L - 1000000001L);
        x.ratio(1, 1000000000);
        due("6 low too great", x.of(2, 15, 15), 16);
        due("6 low too great kind", x.kind(16), 0);
        due("6 low too great lift", x.lift(16), -18);
        due("6 least", x.of(2, 9, 15), 17);
        isRatio("6 least", x, 17, 1, 1);
        LeftNumbers two = of(2);
        two.ratio(1000000000, 999999999);
        two.ratio(152921504, 1);
        two.ratio(536870912, 1);
        due("6 two", two.of(0, 2, 2), 3);
        tells("6 two", two, 3, 0, 30, 59, 1);
    }

    private static void promise6SumsAndDifferences() {
        LeftNumbers x = new LeftNumbers();
        x.number(0, 13, 3);
        x.number(1, 2, 4);
        due("6 sum", x.of(0, 0, 1), 2);
        tells("6 sum", x, 2, 0, 0, 3, 23);
        due("6 less", x.of(1, 1, 0), 3);
        tells("6 less", x, 3, 0, 0, 3, 122);
        x.number(0, 12, 3);
        due("6 carried", x.of(0, 0, 4), 5);
        tells("6 carried", x, 5, 0, 2, 1, 1);
        due("6 all 0", x.of(1, 0, 0), 6);
        tells("6 all 0", x, 6, 0, 3, 0, 0);
        x.number(2, 3, 1);
        due("6 one above the other", x.of(0, 1, 7), 8);
        tells("6 one above the other", x, 8, 0, 1, 2, 17);
        x.number(3, 0, 1);
        x.number(5, 1, 2);
        due("6 nought below", x.of(0, 9, 10), 11);
        tells("6 nought below", x, 11, 0, 4, 0, 0);
        due("6 nought above", x.of(1, 9, 1), 12);
        tells("6 nought above", x, 12, 0, 1, 3, 123);
        x.ratio(1, 3125);
        x.number(20, 1, 25);
        due("6 more than K", x.of(0, 13, 14), 15);
        tells("6 more than K", x, 15, 0, -5, 25, 1);
        due("6 less than a lift", x.of(1, 14, 13), 16);
        tells("6 less than a lift", x, 16, 0, -5, 25, 298023223876953124L);
        x.ratio(0, 1);
        due("6 0 / 1 and nought", x.of(0, 17, 9), 18);
        tells("6 0 / 1 and nought", x, 18, 0, 4, 0, 0);
        due("6 0 / 1 less", x.of(1, 17, 1), 19);
        tells("6 0 / 1 less", x, 19, 0, 1, 4, 623);
        x.shadow(13, 2);
        due("6 of a shadow", x.of(1, 13, 20), 21);
        tells("6 of a shadow", x, 21, 0, -3, 0, 0);
    }

    private static void promise6ProductsAndQuotients() {
        LeftNumbers x = new LeftNumbers();
        x.number(-2, 13, 3);
        x.number(1, 7, 4);
        due("6 times", x.of(2, 0, 1), 2);
        tells("6 times", x, 2, 0, -1, 3, 91);
        due("6 over", x.of(3, 0, 1), 3);
        tells("6 over", x, 3, 0, -3, 3, 109);
        x.number(4, 0, 2);
        due("6 times nought", x.of(2, 0, 4), 5);
        tells("6 times nought", x, 5, 0, 4, 0, 0);
        due("6 nought over", x.of(3, 4, 0), 6);
        tells("6 nought over", x, 6, 0, 8, 0, 0);
        due("6 nought times nought", x.of(2, 4, 4), 7);
        tells("6 nought times nought", x, 7, 0, 12, 0, 0);
        x.ratio(0, 1);
        due("6 nought times 0 / 1", x.of(2, 4, 8), 9);
        isRatio("6 nought times 0 / 1", x, 9, 0, 1);
        due("6 0 / 1 times nought", x.of(2, 8, 4), 10);
        isRatio("6 0 / 1 times nought", x, 10, 0, 1);
        due("6 number times 0 / 1", x.of(2, 0, 8), 11);
        isRatio("6 number times 0 / 1", x, 11, 0, 1);
        due("6 0 / 1 over number", x.of(3, 8, 0), 12);
        isRatio("6 0 / 1 over number", x, 12, 0, 1);
        x.ratio(15, 2);
        due("6 times ratio", x.of(2, 1, 13), 14);
        tells("6 times ratio", x, 14, 0, 2, 4, 323);
        due("6 ratio over", x.of(3, 13, 1), 15);
        due("6 ratio over sure", x.sure(15), 4);
        due("6 nought over ratio", x.of(3, 4, 13), 16);
        tells("6 nought over ratio", x, 16, 0, 5, 0, 0);
    }

    private static void promise6Refusals() {
        LeftNumbers x = new LeftNumbers();
        x.number(40, 1, 25);
        x.number(-40, 1, 25);
        x.number(3, 0, 2);
        x.ratio(0, 1);
        due("6 way", x.of(-1, 0, 0), LeftNumbers.BAD);
        due("6 way", x.of(4, 0, 0), LeftNumbers.BAD);
        due("6 x", x.of(0, -1, 0), LeftNumbers.BAD);
        due("6 x", x.of(0, 4, 0), LeftNumbers.BAD);
        due("6 y", x.of(0, 0, -1), LeftNumbers.BAD);
        due("6 y", x.of(0, 0, 4), LeftNumbers.BAD);
        due("6 over nought", x.of(3, 0, 2), LeftNumbers.ZERO);
        due("6 over 0 / 1", x.of(3, 0, 3), LeftNumbers.ZERO);
        due("6 0 / 1 over nought", x.of(3, 3, 2), LeftNumbers.ZERO);
        due("6 0 / 1 over 0 / 1", x.of(3, 3, 3), LeftNumbers.ZERO);
        due("6 nought over nought", x.of(3, 2, 2), LeftNumbers.ZERO);
        due("6 beyond", x.of(2, 0, 0), LeftNumbers.BEYOND);
        due("6 beyond", x.of(2, 1, 1), LeftNumbers.BEYOND);
        due("6 beyond", x.of(3, 0, 1), LeftNumbers.BEYOND);
        due("6 beyond", x.of(3, 1, 0), LeftNumbers.BEYOND);
        due("6 nought beyond", x.of(1, 0, 0), LeftNumbers.BEYOND);
        due("6 nothing came", x.count(2), 4);
        due("6 not beyond", x.of(2, 0, 1), 4);
        x.number(20, 3, 1);
        due("6 at the edge", x.of(2, 0, 5), 6);
        due("6 at the edge", x.lift(6), 60);
        for (int i = 7; i < 60; i++) {
            x.ratio(1, 1);
        }
        due("6 full ahead of beyond", x.of(2, 0, 0), LeftNumbers.FULL);
        due("6 zero ahead of full", x.of(3, 0, 2), LeftNumbers.ZERO);
        due("6 bad ahead of zero", x.of(3, 60, 2), LeftNumbers.BAD);
        due("6 full", x.of(0, 0, 0), LeftNumbers.FULL);
    }

    private static void promises7to9() {
        LeftNumbers x = of(7);
        x.number(-2, 5, 3);
        x.ratio(49, 3);
        x.coefficient(1, 1);
        x.coefficient(0, -14);
        x.root(0, 5);
        x.shadow(1, 4);
        x.unit(3);
        x.square(1);
        int[] kinds = {0, 1, 2, 3, 0, LeftNumbers.BAD, LeftNumbers.BAD};
        int[] lifts = {-2, 2, 1, 2, 0, -100, -100};
        int[] sures = {3, 21, 4, 4, 21, LeftNumbers.BAD, LeftNumbers.BAD};
        for (int i = 0; i < kinds.length; i++) {
            due("7 kind", x.kind(i), kinds[i]);
            due("8 lift", x.lift(i), lifts[i]);
            due("9 sure", x.sure(i), sures[i]);
        }
        int[] bad = {-1, Integer.MIN_VALUE, 60, Integer.MAX_VALUE};
        for (int i : bad) {
            due("7 kind", x.kind(i), LeftNumbers.BAD);
            due("8 lift", x.lift(i), -100);
            due("9 sure", x.sure(i), LeftNumbers.BAD);
        }
    }

    private static void promise10Figure() {
        LeftNumbers x = of(3);
        x.number(-2, 16, 4);
        int[] number = {0, 1, 2, 1, 0, LeftNumbers.NONE, LeftNumbers.NONE};
        for (int i = -3; i <= 3; i++) {
            due("10 number " + i, x.figure(0, i), number[i + 3]);
        }
        due("10 lowest", x.figure(0, -100), 0);
        due("10 highest", x.figure(0, 1000), LeftNumbers.NONE);
        due("10 below", x.figure(0, -101), LeftNumbers.BAD);
        due("10 above", x.figure(0, 1001), LeftNumbers.BAD);
        due("10 x", x.figure(1, 0), LeftNumbers.BAD);
        due("10 x", x.figure(-1, 0), LeftNumbers.BAD);
        x.number(3, 0, 2);
        due("10 nought", x.figure(1, 4), 0);
        due("10 nought", x.figure(1, 5), LeftNumbers.NONE);
        x.ratio(-1, 6);
        int[] ratio = {0, 1, 1, 1, 1};
        for (int i = -2; i <= 2; i++) {
            due("10 ratio " + i, x.figure(2, i), ratio[i + 2]);
        }
        due("10 ratio", x.figure(2, 1000), 1);
        due("10 ratio below", x.figure(2, -101), LeftNumbers.BAD);
        x.ratio(0, 5);
        due("10 0 / 1", x.figure(3, 1000), 0);
        due("10 0 / 1", x.figure(3, -100), 0);
        int[] tenth = {0, 0, 2, 2};
        for (int i = 0; i <= 1000; i++) {
            LeftNumbers y = of(3);
            y.ratio(1, 10);
            due("10 a tenth " + i, y.figure(0, i), i == 0 ? 1 : tenth[i % 4]);
        }
    }

    private static void promise11Told() {
        LeftNumbers x = of(31);
        x.ratio(-31, 1);
        due("11 ratio", x.told(0), 787662783788549760L);
        x.number(4, 1000000007L, 12);
        due("11 number", x.told(1), 1000000007L);
        x.number(4, 31 * 5, 3);
        due("11 noughts", x.told(2), 5);
        x.number(4, 0, 3);
        due("11 nought", x.told(3), 0);
        x.ratio(0, 3);
        due("11 0 / 1", x.told(4), 0);
        due("11 x", x.told(5), -1);
        due("11 x", x.told(-1), -1);
    }

    private static void promise12Part() {
        LeftNumbers x = new LeftNumbers();
        x.ratio(-8, 12);
        due("12 up", x.part(0, 0), -2);
        due("12 low", x.part(0, 1), 3);
        due("12 what", x.part(0, 2), 0);
        due("12 what", x.part(0, -1), 0);
        due("12 x", x.part(1, 1), 0);
        due("12 x", x.part(-1, 1), 0);
        x.number(0, 3, 2);
        due("12 kind", x.part(1, 1), 0);
        x.shadow(0, 3);
        due("12 shadow", x.part(2, 1), 0);
        x.guess(2, 5);
        due("12 guess", x.part(3, 0), -2);
        x.of(0, 1, 1);
        due("12 no low of before", x.part(4, 1), 0);
    }

    private static void promise13Near() {
        LeftNumbers x = new LeftNumbers();
        x.ratio(1, 3);
        x.ratio(376, 3);
        due("13 ratios", x.near(0, 1, 3), 1);
        due("13 ratios", x.near(0, 1, 4), 0);
        due("13 itself", x.near(0, 0, 100), 1);
        due("13 k", x.near(0, 0, 101), LeftNumbers.BAD);
        due("13 k", x.near(0, 0, -61), LeftNumbers.BAD);
        due("13 k", x.near(0, 0, -60), 1);
        due("13 x", x.near(2, 0, 0), LeftNumbers.BAD);
        due("13 y", x.near(0, -1, 0), LeftNumbers.BAD);
        x.shadow(0, 5);
        due("13 shadow", x.near(0, 2, 5), 1);
        due("13 shadow", x.near(0, 2, 6), 2);
        due("13 shadow", x.near(2, 2, 100), 2);
        due("13 shadow and other", x.near(1, 2, 3), 1);
        due("13 shadow and other", x.near(1, 2, 4), 0);
        due("13 shadow and other", x.near(2, 1, 100), 0);
        x.number(60, 1, 25);
        x.number(60, 1, 25);
        due("13 above the lifts", x.near(3, 4, 85), 1);
        due("13 above the lifts", x.near(3, 4, 86), 2);
        x.number(2, 0, 2);
        x.number(3, 0, 4);
        due("13 noughts", x.near(5, 6, 4), 1);
        due("13 noughts", x.near(5, 6, 5), 2);
        due("13 nought and unit", x.near(5, 0, 0), 1);
        due("13 nought and unit", x.near(5, 0, 1), 0);
        x.ratio(0, 1);
        due("13 nought and 0 / 1", x.near(6, 7, 7), 1);
        due("13 nought and 0 / 1", x.near(6, 7, 8), 2);
        due("13 great and 0 / 1", x.near(3, 7, 60), 1);
        due("13 great and 0 / 1", x.near(3, 7, 61), 0);
        x.number(-60, 1, 2);
        due("13 low", x.near(8, 0, -60), 1);
        due("13 low", x.near(8, 0, -59), 0);
        x.ratio(1000000000, 999999999);
        x.ratio(-1000000000, 999999998);
        due("13 great parts", x.near(9, 10, 9), 1);
        due("13 great parts", x.near(9, 10, 10), 0);
        due("13 nothing came", x.count(2), 11);
    }

    private static void promise14Guess() {
        LeftNumbers x = new LeftNumbers();
        x.ratio(-75, 4);
        x.shadow(0, 6);
        due("14 guess", x.guess(1, 80), 2);
        isRatio("14 guess", x, 2, -75, 4);
        due("14 just within", x.guess(1, 75), 3);
        due("14 none", x.guess(1, 74), LeftNumbers.NONE);
        due("14 too great", x.guess(1, 89), LeftNumbers.BAD);
        due("14 not too great", x.guess(1, 88), 4);
        due("14 bound", x.guess(1, 0), LeftNumbers.BAD);
        due("14 bound", x.guess(1, -1), LeftNumbers.BAD);
        due("14 bound", x.guess(1, 1000000001), LeftNumbers.BAD);
        due("14 x", x.guess(5, 1), LeftNumbers.BAD);
        due("14 ratio", x.guess(0, 75), 5);
        isRatio("14 ratio", x, 5, -75, 4);
        due("14 ratio", x.guess(0, 74), LeftNumbers.NONE);
        due("14 ratio", x.guess(0, 386020223), LeftNumbers.BAD);
        due("14 ratio", x.guess(0, 386020222), 6);
        x.shadow(0, 0);
        due("14 nought", x.guess(7, 1), LeftNumbers.KIND);
        due("14 nought", x.guess(7, 1000000000), LeftNumbers.KIND);
        due("14 nought", x.guess(7, 0), LeftNumbers.BAD);
        x.ratio(0, 1);
        due("14 0 / 1", x.guess(8, 1), 9);
        isRatio("14 0 / 1", x, 9, 0, 1);
        x.ratio(2, 75);
        x.shadow(10, 7);
        due("14 low", x.guess(11, 75), 12);
        isRatio("14 low", x, 12, 2, 75);
        due("14 low", x.guess(11, 74), LeftNumbers.NONE);
        x.number(30, 1, 25);
        due("14 far lift", x.guess(13, 1000), LeftNumbers.NONE);
        x.number(-30, 1, 25);
        due("14 far low", x.guess(14, 1000), LeftNumbers.NONE);
        due("14 nothing came", x.count(2), 15);
        LeftNumbers two = of(2);
        two.ratio(536870912, 3);
        two.shadow(0, 59);
        two.ratio(-3, 536870912);
        two.shadow(2, 59);
        due("14 two", two.guess(1, 536870912), LeftNumbers.BAD);
        due("14 two", two.guess(1, 536870911), LeftNumbers.NONE);
        two.ratio(12345678, 536870911);
        two.shadow(4, 59);
        due("14 two", two.guess(5, 536870910), LeftNumbers.NONE);
        due("14 two", two.guess(5, 536870911), 6);
        isRatio("14 two", two, 6, 12345678, 536870911);
        LeftNumbers y = full(3);
        due("14 full", y.guess(4, 5), LeftNumbers.FULL);
        due("14 none ahead of full", y.guess(5, 5), LeftNumbers.NONE);
    }

    private static void comesRound(LeftNumbers x, int up, int low, int start, int period) {
        int i = x.ratio(up, low);
        due("15 round of " + up + " / " + low, x.round(i, 0), start);
        due("15 period of " + up + " / " + low, x.round(i, 1), period);
    }

    private static void promise15Round() {
        LeftNumbers x = new LeftNumbers();
        comesRound(x, 1, 1, 1, 1);
        comesRound(x, -1, 1, 0, 1);
        comesRound(x, -5, 1, 0, 1);
        comesRound(x, 25, 1, 1, 1);
        comesRound(x, -1, 2, 0, 1);
        comesRound(x, 1, 3, 1, 2);
        comesRound(x, -2, 3, 0, 2);
        comesRound(x, 7, 15, 1, 2);
        comesRound(x, -1, 7, 0, 6);
        comesRound(x, -2, 1, 1, 1);
        comesRound(x, 1, 1997, 1, 1996);
        comesRound(x, -1, 1997, 0, 1996);
        comesRound(x, -1, 2003, NONE, NONE);
        comesRound(x, 999999937, 1997, NONE, NONE);
        comesRound(x, 1, 999999937, NONE, NONE);
        due("15 what", x.round(0, 2), LeftNumbers.BAD);
        due("15 what", x.round(0, -1), LeftNumbers.BAD);
        due("15 x", x.round(15, 0), LeftNumbers.BAD);
        due("15 x", x.round(-1, 0), LeftNumbers.BAD);
        x.ratio(0, 1);
        due("15 0 / 1", x.round(15, 0), LeftNumbers.KIND);
        due("15 0 / 1", x.round(15, 2), LeftNumbers.BAD);
        x.shadow(0, 3);
        due("15 shadow", x.round(16, 1), LeftNumbers.KIND);
        LeftNumbers two = of(2);
        comesRound(two, 1000000000, 1, 21, 1);
        comesRound(two, -1, 1999, 0, 333);
        comesRound(two, -1, 1987, 0, 1986);
        comesRound(two, 1024 * 1987 - 1, 1987, 14, 1986);
        comesRound(two, 8192 * 1987 + 1, 1987, NONE, NONE);
    }

    private static final int NONE = LeftNumbers.NONE;

    private static void promise16Coefficient() {
        LeftNumbers x = new LeftNumbers();
        for (int i = 0; i < 8; i++) {
            due("16 before", x.coefficient(i, i * 100 - 350), 0);
        }
        for (int i = 0; i < 8; i++) {
            due("16 then", x.coefficient(i, -1000000), i * 100 - 350);
            due("16 then", x.coefficient(i, 1000000), -1000000);
        }
        due("16 i", x.coefficient(-1, 1), 2000000);
        due("16 i", x.coefficient(8, 1), 2000000);
        due("16 c", x.coefficient(1, 1000001), 2000000);
        due("16 c", x.coefficient(1, -1000001), 2000000);
        due("16 c", x.coefficient(1, Integer.MIN_VALUE), 2000000);
        due("16 kept", x.coefficient(1, 0), 1000000);
    }

    private static void promise17At() {
        LeftNumbers x = new LeftNumbers();
        x.ratio(1, 2);
        due("17 all 0", x.at(0), 1);
        isRatio("17 all 0", x, 1, 0, 1);
        int[] c = {3, -2, 0, 4, 0, 0, 0, 64};
        for (int i = 0; i < 8; i++) {
            x.coefficient(i, c[i]);
        }
        due("17 ratio", x.at(0), 2);
        isRatio("17 ratio", x, 2, 3, 1);
        x.number(1, 2, 2);
        due("17 number", x.at(3), 4);
        tells("17 number", x, 4, 0, 0, 3, 108);
        x.ratio(1000, 1);
        due("17 too great", x.at(5), 6);
        due("17 too great kind", x.kind(6), 0);
        due("17 too great sure", x.sure(6), 25);
        due("17 x", x.at(7), LeftNumbers.BAD);
        due("17 x", x.at(-1), LeftNumbers.BAD);
        for (int i = 1; i < 8; i++) {
            x.coefficient(i, 0);
        }
        x.number(2, 0, 1);
        due("17 one coefficient at a nought", x.at(7), 8);
        isRatio("17 one coefficient at a nought", x, 8, 3, 1);
        x.coefficient(1, 1);
        due("17 nought", x.at(7), 9);
        tells("17 nought", x, 9, 0, 0, 3, 3);
        for (int i = 10; i < 60; i++) {
            x.ratio(1, 1);
        }
        due("17 full", x.at(0), LeftNumbers.FULL);
        due("17 bad ahead of full", x.at(60), LeftNumbers.BAD);
    }

    private static void promise17Beyond() {
        LeftNumbers x = new LeftNumbers();
        x.number(-31, 1, 3);
        x.number(31, 1, 3);
        x.coefficient(0, 1);
        x.coefficient(1, 1);
        due("17 within", x.at(0), 2);
        tells("17 within", x, 2, 0, -31, 3, 1);
        x.coefficient(2, 1);
        due("17 beyond below", x.at(0), LeftNumbers.BEYOND);
        due("17 within", x.at(1), 3);
        tells("17 within", x, 3, 0, 0, 25, 1);
        x.coefficient(1, 0);
        due("17 beyond between", x.at(1), LeftNumbers.BEYOND);
        x.coefficient(0, 0);
        due("17 beyond", x.at(1), LeftNumbers.BEYOND);
        due("17 nothing came", x.count(2), 4);
        for (int i = 4; i < 60; i++) {
            x.ratio(1, 1);
        }
        due("17 full ahead of beyond", x.at(1), LeftNumbers.FULL);
        LeftNumbers two = of(2);
        two.number(10, 1, 59);
        two.coefficient(1, 1);
        two.coefficient(0, -1024);
        due("17 nought beyond", two.at(0), LeftNumbers.BEYOND);
        two.coefficient(2, 1);
        two.coefficient(1, -1024);
        two.coefficient(0, 3);
        due("17 nought beyond between", two.at(0), LeftNumbers.BEYOND);
        due("17 nothing came of two", two.count(2), 1);
    }

    private static void promise18Firsts() {
        LeftNumbers x = of(7);
        due("18 all 0, good", x.firsts(0), 0);
        due("18 all 0, stuck", x.firsts(1), 127);
        x.coefficient(0, -2);
        x.coefficient(2, 1);
        due("18 good", x.firsts(0), 8 + 16);
        due("18 stuck", x.firsts(1), 0);
        x.coefficient(0, 9);
        x.coefficient(1, -6);
        due("18 good", x.firsts(0), 0);
        due("18 stuck", x.firsts(1), 8);
        due("18 what", x.firsts(2), LeftNumbers.BAD);
        due("18 what", x.firsts(-1), LeftNumbers.BAD);
        LeftNumbers y = of(31);
        due("18 all of 31", y.firsts(1), Integer.MAX_VALUE);
        y.coefficient(1, 1);
        y.coefficient(0, 1);
        due("18 highest", y.firsts(0), 1 << 30);
        LeftNumbers z = of(3);
        z.coefficient(3, 1);
        z.coefficient(1, -1);
        due("18 three", z.firsts(0), 7);
        z.coefficient(1, 0);
        z.coefficient(0, 1000000);
        due("18 slope 0", z.firsts(1), 4);
    }

    private static void promise19Root() {
        LeftNumbers x = of(7);
        x.coefficient(0, -2);
        x.coefficient(2, 1);
        due("19 root", x.root(3, 4), 0);
        tells("19 root", x, 0, 2, 0, 4, 2166);
        due("19 root", x.root(4, 1), 1);
        tells("19 root", x, 1, 2, 0, 1, 4);
        due("19 most", x.root(3, 21), 2);
        due("19 most", x.sure(2), 21);
        due("19 f", x.root(-1, 3), LeftNumbers.BAD);
        due("19 f", x.root(7, 3), LeftNumbers.BAD);
        due("19 n", x.root(3, 0), LeftNumbers.BAD);
        due("19 n", x.root(3, 22), LeftNumbers.BAD);
        due("19 none", x.root(0, 3), LeftNumbers.NONE);
        x.coefficient(0, 0);
        due("19 stuck", x.root(0, 3), LeftNumbers.NONE);
        x.coefficient(1, 1);
        due("19 nought", x.root(0, 3), 3);
        tells("19 nought", x, 3, 2, 3, 0, 0);
        due("19 -1", x.root(6, 2), 4);
        tells("19 -1", x, 4, 2, 0, 2, 48);
        x.coefficient(0, -49);
        due("19 lift", x.root(0, 3), 5);
        tells("19 lift", x, 5, 2, 2, 1, 1);
        for (int i = 6; i < 60; i++) {
            x.ratio(1, 1);
        }
        due("19 full", x.root(0, 3), LeftNumbers.FULL);
        due("19 none ahead of full", x.root(1, 3), LeftNumbers.NONE);
        due("19 bad ahead of none", x.root(1, 30), LeftNumbers.BAD);
    }

    private static void promise20More() {
        LeftNumbers x = of(7);
        x.coefficient(0, -2);
        x.coefficient(2, 1);
        x.root(3, 1);
        x.coefficient(2, 5);
        x.coefficient(0, 5);
        due("20 more", x.more(0, 4), 4);
        tells("20 more", x, 0, 2, 0, 4, 2166);
        x.shadow(0, 3);
        due("20 fewer", x.more(0, 2), 2);
        tells("20 fewer", x, 0, 2, 0, 2, 10);
        tells("20 a shadow stays", x, 1, 3, 0, 3, 108);
        due("20 n", x.more(0, 0), LeftNumbers.BAD);
        due("20 n", x.more(0, 22), LeftNumbers.BAD);
        due("20 x", x.more(2, 1), LeftNumbers.BAD);
        due("20 shadow", x.more(1, 1), LeftNumbers.KIND);
        due("20 shadow, n", x.more(1, 0), LeftNumbers.BAD);
        due("20 stays", x.sure(0), 2);
        x.coefficient(2, 0);
        x.coefficient(1, 1);
        x.coefficient(0, -49 * 3);
        due("20 root", x.root(0, 2), 2);
        tells("20 nought", x, 2, 2, 2, 0, 0);
        due("20 out of a nought", x.more(2, 5), 3);
        tells("20 out of a nought", x, 2, 2, 2, 3, 3);
        due("20 into a nought", x.more(2, 1), 0);
        tells("20 into a nought", x, 2, 2, 1, 0, 0);
        x.undo();
        due("20 number in the root's place", x.number(0, 1, 1), 2);
        due("20 is no root", x.more(2, 1), LeftNumbers.KIND);
        LeftNumbers y = full(5);
        due("20 ratio", y.more(3, 1), LeftNumbers.KIND);
        y.undo();
        y.coefficient(1, 1);
        y.root(0, 3);
        due("20 more when full", y.more(59, 7), 0);
        due("20 more when full", y.lift(59), 7);
    }

    private static void promise21Square() {
        LeftNumbers x = of(7);
        x.ratio(2, 1);
        due("21 square", x.square(0), 1);
        x.shadow(1, 4);
        tells("21 square", x, 2, 3, 0, 4, 2166);
        due("21 kind", x.kind(1), 0);
        due("21 sure", x.sure(1), 21);
        x.ratio(9, 49 * 16);
        due("21 of a ratio", x.square(3), 4);
        due("21 of a ratio kind", x.kind(4), 0);
        due("21 of a ratio lift", x.lift(4), -1);
        x.ratio(-3, 28);
        due("21 the lesser one", x.near(4, 5, 20), 1);
        x.number(-6, 4 + 7, 2);
        due("21 number", x.square(6), 7);
        tells("21 number", x, 7, 0, -3, 2, 16);
        x.number(3, 4, 2);
        due("21 odd", x.square(8), LeftNumbers.NONE);
        x.number(2, 3, 2);
        due("21 no square", x.square(9), LeftNumbers.NONE);
        x.number(-3, 4, 2);
        due("21 odd below", x.square(10), LeftNumbers.NONE);
        x.number(2, 0, 2);
        due("21 nought", x.square(11), LeftNumbers.KIND);
        x.ratio(0, 1);
        due("21 0 / 1", x.square(12), LeftNumbers.KIND);
        due("21 x", x.square(13), LeftNumbers.BAD);
        due("21 x", x.square(-1), LeftNumbers.BAD);
        LeftNumbers y = full(7);
        due("21 full", y.square(0), LeftNumbers.FULL);
        due("21 none ahead of full", y.square(2), LeftNumbers.NONE);
    }

    private static void promise21SquareOfTwo() {
        LeftNumbers x = of(2);
        x.number(4, 17, 6);
        due("21 two", x.square(0), 1);
        tells("21 two", x, 1, 0, 2, 5, 9);
        x.number(0, 1, 3);
        due("21 two, 3", x.square(2), 3);
        tells("21 two, 3", x, 3, 0, 0, 2, 1);
        x.number(0, 1, 2);
        due("21 little", x.square(4), LeftNumbers.LITTLE);
        x.number(0, 3, 2);
        due("21 little", x.square(5), LeftNumbers.LITTLE);
        x.number(1, 1, 2);
        due("21 odd ahead of little", x.square(6), LeftNumbers.NONE);
        x.number(0, 5, 3);
        due("21 none", x.square(7), LeftNumbers.NONE);
        x.ratio(9, 1);
        due("21 nine", x.square(8), 9);
        tells("21 nine", x, 9, 0, 0, 58, (1L << 58) - 3);
        x.ratio(25, 4);
        due("21 five halves", x.square(10), 11);
        tells("21 five halves", x, 11, 0, -1, 58, 5);
        for (int i = 12; i < 60; i++) {
            x.ratio(1, 1);
        }
        due("21 full", x.square(0), LeftNumbers.FULL);
        due("21 little ahead of full", x.square(4), LeftNumbers.LITTLE);
    }

    private static void promise22Unit() {
        LeftNumbers x = of(2);
        due("22 two", x.unit(1), 0);
        tells("22 two", x, 0, 0, 0, 59, 1);
        due("22 two", x.unit(2), LeftNumbers.BAD);
        LeftNumbers y = of(7);
        due("22 unit", y.unit(3), 0);
        y.shadow(0, 4);
        tells("22 unit", y, 1, 3, 0, 4, 1354);
        tells("22 unit", y, 0, 0, 0, 21, y.told(0));
        due("22 -1", y.unit(6), 2);
        tells("22 -1", y, 2, 0, 0, 21, 558545864083284006L);
        due("22 0", y.unit(0), LeftNumbers.BAD);
        due("22 7", y.unit(7), LeftNumbers.BAD);
        due("22 -1", y.unit(-1), LeftNumbers.BAD);
        LeftNumbers z = full(5);
        due("22 full", z.unit(2), LeftNumbers.FULL);
        due("22 bad ahead of full", z.unit(5), LeftNumbers.BAD);
    }

    private static void promise23Undo() {
        LeftNumbers x = new LeftNumbers();
        due("23 nothing", x.undo(), LeftNumbers.KIND);
        x.ratio(1, 2);
        x.ratio(1, 3);
        due("23 undo", x.undo(), 1);
        due("23 gone", x.kind(1), LeftNumbers.BAD);
        due("23 once", x.undo(), LeftNumbers.KIND);
        due("23 one is left", x.part(0, 1), 2);
        due("23 refused", x.ratio(1, 0), LeftNumbers.BAD);
        due("23 a refused one is none that came", x.undo(), LeftNumbers.KIND);
        x.coefficient(1, 1);
        due("23 again 1", x.root(0, 3), 1);
        x.more(1, 4);
        x.coefficient(1, 2);
        due("23 a refused one takes no undo", x.at(7), LeftNumbers.BAD);
        due("23 undo", x.undo(), 1);
        due("23 coefficient stays", x.coefficient(1, 2), 2);
        x.ratio(1, 1);
        x.prime(5);
        due("23 behind prime", x.undo(), LeftNumbers.KIND);
        LeftNumbers y = full(3);
        due("23 full", y.undo(), 59);
        due("23 room again", y.ratio(7, 1), 59);
        due("23 full again", y.ratio(7, 1), LeftNumbers.FULL);
        due("23 undo again", y.undo(), 59);
    }

    private static void promise24Count() {
        LeftNumbers x = of(23);
        due("24 prime", x.count(0), 23);
        due("24 K", x.count(1), 13);
        due("24 numbers", x.count(2), 0);
        due("24 undo", x.count(3), 0);
        x.ratio(1, 1);
        x.unit(2);
        due("24 numbers", x.count(2), 2);
        due("24 undo", x.count(3), 1);
        x.undo();
        due("24 numbers", x.count(2), 1);
        due("24 undo", x.count(3), 0);
        due("24 what", x.count(4), LeftNumbers.BAD);
        due("24 what", x.count(-1), LeftNumbers.BAD);
    }
}
