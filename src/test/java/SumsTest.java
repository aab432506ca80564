import java.math.BigInteger;

/** Promises 11 to 17: sums, products, quotients. */
public final class SumsTest {
    private static final int[] NO_SLOTS = {-1, 24, Integer.MIN_VALUE, Integer.MAX_VALUE};
    private static final BigInteger ONE = BigInteger.ONE;

    public static void main(String[] args) {
        act();
        actRefusals();
        over();
        overHardGuesses();
        overRefusals();
        divisor();
        power();
        root();
        rest();
        inverse();
        Due.end();
    }

    private static final BigInteger[] SOME = {BigInteger.ZERO, ONE, ONE.negate(), BigInteger.valueOf(12),
        BigInteger.valueOf(-18), BigInteger.valueOf(Long.MAX_VALUE), BigInteger.valueOf(Long.MIN_VALUE), Due.two(32),
        Due.two(64).subtract(ONE), Due.two(100).negate(), Due.big("340282366920938463463374607431768211457"),
        Due.two(191).subtract(Due.two(90)), Due.two(383), Due.L, Due.L.negate()};

    private static void act() {
        for (BigInteger p : SOME) {
            for (BigInteger q : SOME) {
                BigInteger[] want = {p.add(q), p.subtract(q), p.multiply(q)};
                for (int how = 0; how <= 2; how++) {
                    String call = "act " + how + " of " + p + ", " + q;
                    for (int c = 0; c <= 2; c++) {
                        WideWholes x = new WideWholes();
                        Due.put(x, 0, p);
                        Due.put(x, 1, q);
                        boolean beyond = want[how].abs().compareTo(Due.L) > 0;
                        BigInteger was = c == 0 ? p : c == 1 ? q : BigInteger.ZERO;
                        Due.due(call, x.act(how, 0, 1, c), beyond ? -5 : 1);
                        Due.dueSlot(call, x, c, beyond ? was : want[how]);
                    }
                }
            }
        }
        WideWholes x = new WideWholes();
        Due.put(x, 3, 9);
        Due.due("act on one slot alone", x.act(2, 3, 3, 3), 1);
        Due.due("act on one slot alone", x.low(3), 81);
    }

    private static void actRefusals() {
        WideWholes x = new WideWholes();
        Due.put(x, 0, 5);
        for (int bad : NO_SLOTS) {
            Due.due("act: a", x.act(0, bad, 0, 0), -1);
            Due.due("act: b", x.act(0, 0, bad, 0), -1);
            Due.due("act: c", x.act(0, 0, 0, bad), -1);
        }
        for (int how : new int[] {-1, 3, Integer.MIN_VALUE, Integer.MAX_VALUE}) {
            Due.due("act(" + how + ")", x.act(how, 0, 0, 0), -1);
        }
        Due.dueSlot("refusals change nothing", x, 0, 5);
    }

    private static void dueOver(BigInteger p, BigInteger q) {
        BigInteger[] cut = p.divideAndRemainder(q);
        BigInteger left = p.mod(q.abs());
        BigInteger[] quotients = {cut[0], Model.floor(p, q), p.subtract(left).divide(q)};
        for (int way = 0; way <= 2; way++) {
            String call = "over " + way + " of " + p + ", " + q;
            WideWholes x = new WideWholes();
            Due.put(x, 0, p);
            Due.put(x, 1, q);
            Due.due(call, x.over(way, 0, 1, 2, 3), 1);
            Due.dueSlot(call, x, 2, quotients[way]);
            Due.dueSlot(call, x, 3, p.subtract(q.multiply(quotients[way])));
            Due.due(call, x.over(way, 0, 1, 1, 0), 1);
            Due.dueSlot(call, x, 1, quotients[way]);
            Due.dueSlot(call, x, 0, p.subtract(q.multiply(quotients[way])));
        }
    }

    private static void over() {
        for (BigInteger p : SOME) {
            for (BigInteger q : SOME) {
                if (q.signum() != 0) {
                    dueOver(p, q);
                }
            }
        }
        for (int p = -13; p <= 13; p++) {
            for (int q = -5; q <= 5; q++) {
                if (q != 0) {
                    dueOver(BigInteger.valueOf(p), BigInteger.valueOf(q));
                }
            }
        }
    }

    /** Parts of these kinds bring the guesses of a long division that are too high by 1 and by 2. */
    private static void overHardGuesses() {
        long[] kinds = {0, 1, 0x7FFFFFFFL, 0x80000000L, 0xFFFFFFFEL, 0xFFFFFFFFL};
        for (int u = 0; u < 1296; u++) {
            for (int v = 0; v < 216; v += 1 + u % 5) {
                BigInteger p = join(kinds, u, 4);
                BigInteger q = join(kinds, v, 3);
                if (q.signum() != 0) {
                    WideWholes x = new WideWholes();
                    Due.put(x, 0, p);
                    Due.put(x, 1, q);
                    Due.due("over", x.over(0, 0, 1, 2, 3), 1);
                    Due.dueSlot("quotient of " + p + ", " + q, x, 2, p.divide(q));
                    Due.dueSlot("left over of " + p + ", " + q, x, 3, p.mod(q));
                }
            }
        }
    }

    private static BigInteger join(long[] kinds, int choice, int count) {
        BigInteger value = BigInteger.ZERO;
        for (int i = 0; i < count; i++) {
            value = value.shiftLeft(32).add(BigInteger.valueOf(kinds[choice % 6]));
            choice /= 6;
        }
        return value;
    }

    private static void overRefusals() {
        WideWholes x = new WideWholes();
        Due.put(x, 0, 5);
        Due.put(x, 1, 2);
        for (int bad : NO_SLOTS) {
            Due.due("over: a", x.over(0, bad, 1, 2, 3), -1);
            Due.due("over: b", x.over(0, 0, bad, 2, 3), -1);
            Due.due("over: c", x.over(0, 0, 1, bad, 3), -1);
            Due.due("over: d", x.over(0, 0, 1, 2, bad), -1);
        }
        for (int way : new int[] {-1, 3, Integer.MIN_VALUE, Integer.MAX_VALUE}) {
            Due.due("over(" + way + ")", x.over(way, 0, 1, 2, 3), -1);
        }
        Due.due("over: c is d", x.over(0, 0, 1, 0, 0), -1);
        Due.due("over: BAD ahead of ZERO", x.over(0, 0, 9, 2, 2), -1);
        Due.due("over: BAD ahead of ZERO", x.over(3, 0, 9, 2, 3), -1);
        for (int way = 0; way <= 2; way++) {
            Due.due("over: by 0", x.over(way, 0, 9, 0, 1), -2);
            Due.due("over: 0 by 0", x.over(way, 9, 9, 0, 1), -2);
        }
        Due.dueSlot("refusals change nothing", x, 0, 5);
        Due.dueSlot("refusals change nothing", x, 1, 2);
    }

    private static void divisor() {
        for (BigInteger p : SOME) {
            for (BigInteger q : SOME) {
                for (int c = 0; c <= 2; c++) {
                    WideWholes x = new WideWholes();
                    Due.put(x, 0, p);
                    Due.put(x, 1, q);
                    Due.due("divisor", x.divisor(0, 1, c), 1);
                    Due.dueSlot("divisor of " + p + ", " + q, x, c, p.gcd(q));
                }
            }
        }
        // the longest way of Euclid's: two Fibonacci numbers next to one another, the widest there are
        WideWholes x = new WideWholes();
        BigInteger low = ONE;
        BigInteger high = ONE;
        while (low.add(high).compareTo(Due.L) <= 0) {
            BigInteger next = low.add(high);
            low = high;
            high = next;
        }
        Due.put(x, 0, high);
        Due.put(x, 1, low.negate());
        Due.due("divisor", x.divisor(0, 1, 2), 1);
        Due.dueSlot("divisor of Fibonacci numbers", x, 2, ONE);
        for (int bad : NO_SLOTS) {
            Due.due("divisor: a", x.divisor(bad, 0, 0), -1);
            Due.due("divisor: b", x.divisor(0, bad, 0), -1);
            Due.due("divisor: c", x.divisor(0, 0, bad), -1);
        }
        Due.dueSlot("refusals change nothing", x, 0, high);
    }

    private static void duePower(BigInteger a, int n) {
        WideWholes x = new WideWholes();
        String call = a + " to the power of " + n;
        Due.put(x, 0, a);
        BigInteger want = a.pow(n);
        boolean beyond = want.abs().compareTo(Due.L) > 0;
        Due.due(call, x.power(0, n, 1), beyond ? -5 : 1);
        Due.dueSlot(call, x, 1, beyond ? BigInteger.ZERO : want);
        Due.due(call, x.power(0, n, 0), beyond ? -5 : 1);
        Due.dueSlot(call, x, 0, beyond ? a : want);
    }

    private static void power() {
        for (int n = 0; n <= 9; n++) {
            for (BigInteger a : SOME) {
                duePower(a, n);
            }
        }
        for (int n : new int[] {127, 128, 191, 192, 242, 243, 383, 384, 385, 1999, 2000}) {
            for (int a = -4; a <= 4; a++) {
                duePower(BigInteger.valueOf(a), n);
            }
        }
        duePower(Due.two(192).subtract(ONE), 2);
        duePower(Due.two(128).negate(), 3);
        WideWholes x = new WideWholes();
        Due.put(x, 0, 3);
        for (int bad : NO_SLOTS) {
            Due.due("power: a", x.power(bad, 2, 0), -1);
            Due.due("power: c", x.power(0, 2, bad), -1);
        }
        for (int n : new int[] {-1, 2001, Integer.MIN_VALUE, Integer.MAX_VALUE}) {
            Due.due("power: n " + n, x.power(0, n, 0), -1);
        }
        Due.dueSlot("refusals change nothing", x, 0, 3);
    }

    private static void dueRoot(BigInteger a, int n, BigInteger root) {
        WideWholes x = new WideWholes();
        String call = "root " + n + " of " + a;
        int want = root.pow(n).equals(a) ? 1 : 0;
        Due.put(x, 0, a);
        Due.due(call, x.root(0, n, 1), want);
        Due.dueSlot(call, x, 1, root);
        Due.due(call, x.root(0, n, 0), want);
        Due.dueSlot(call, x, 0, root);
    }

    private static void root() {
        for (int n = 2; n <= 9; n++) {
            dueRoot(BigInteger.ZERO, n, BigInteger.ZERO);
            for (int k = 1; n * k <= 384; k += 1 + k / 3) {
                for (BigInteger r : new BigInteger[] {Due.two(k - 1), Due.two(k).subtract(ONE)}) {
                    dueRoot(r.pow(n), n, r);
                    dueRoot(r.pow(n).subtract(ONE), n, r.subtract(ONE));
                    BigInteger last = r.add(ONE).pow(n).subtract(ONE);
                    dueRoot(last.min(Due.L), n, r);
                }
            }
        }
        dueRoot(Due.L, 2, Due.two(192).subtract(ONE));
        WideWholes x = new WideWholes();
        Due.put(x, 0, -8);
        Due.put(x, 1, 8);
        for (int bad : NO_SLOTS) {
            Due.due("root: a", x.root(bad, 2, 0), -1);
            Due.due("root: c", x.root(1, 2, bad), -1);
        }
        for (int n : new int[] {1, 10, 0, -2, Integer.MIN_VALUE, Integer.MAX_VALUE}) {
            Due.due("root: n " + n, x.root(1, n, 1), -1);
            Due.due("root: BAD ahead of STATE", x.root(0, n, 0), -1);
        }
        Due.due("root 3 of -8", x.root(0, 3, 1), -3);
        Due.due("root 2 of -8", x.root(0, 2, 0), -3);
        Due.dueSlot("refusals change nothing", x, 0, -8);
        Due.dueSlot("refusals change nothing", x, 1, 8);
    }

    private static final BigInteger[] MODULI = {ONE, BigInteger.TWO, BigInteger.valueOf(97),
        BigInteger.valueOf(1000000007), Due.two(64), Due.two(127).subtract(ONE), Due.two(128).subtract(ONE),
        Due.two(128).subtract(BigInteger.valueOf(159))};

    /** Slot 0 is 3, slot 1 a modulus, slots 2 to 4 the three kinds that are none. */
    private static WideWholes withModuli() {
        WideWholes x = new WideWholes();
        Due.put(x, 0, 3);
        Due.put(x, 1, 7);
        Due.put(x, 3, -7);
        Due.put(x, 4, Due.two(128));
        return x;
    }

    private static void rest() {
        for (BigInteger m : MODULI) {
            for (BigInteger a : SOME) {
                for (int e : new int[] {0, 1, 2, 3, 1000, 524288, 999999, 1000000}) {
                    WideWholes x = new WideWholes();
                    Due.put(x, 0, a);
                    Due.put(x, 1, m);
                    BigInteger want = a.modPow(BigInteger.valueOf(e), m);
                    Due.due("rest", x.rest(0, e, 1, 2), 1);
                    Due.dueSlot("rest of " + a + " to the power of " + e + " by " + m, x, 2, want);
                    Due.due("rest", x.rest(0, e, 1, 1), 1);
                    Due.dueSlot("rest of " + a + " to the power of " + e + " by " + m, x, 1, want);
                }
            }
        }
        WideWholes x = withModuli();
        for (int bad : NO_SLOTS) {
            Due.due("rest: a", x.rest(bad, 1, 1, 0), -1);
            Due.due("rest: m", x.rest(0, 1, bad, 0), -1);
            Due.due("rest: c", x.rest(0, 1, 1, bad), -1);
        }
        for (int e : new int[] {-1, 1000001, Integer.MIN_VALUE, Integer.MAX_VALUE}) {
            Due.due("rest: e " + e, x.rest(0, e, 1, 0), -1);
            Due.due("rest: BAD ahead of ZERO", x.rest(0, e, 2, 0), -1);
            Due.due("rest: BAD ahead of STATE", x.rest(0, e, 3, 0), -1);
        }
        Due.due("rest: m is 0", x.rest(0, 0, 2, 0), -2);
        Due.due("rest: m is below 0", x.rest(0, 2, 3, 0), -3);
        Due.due("rest: m is too long", x.rest(0, 2, 4, 0), -3);
        Due.dueSlot("refusals change nothing", x, 0, 3);
    }

    private static void inverse() {
        for (BigInteger m : MODULI) {
            for (BigInteger a : SOME) {
                WideWholes x = new WideWholes();
                Due.put(x, 0, a);
                Due.put(x, 1, m);
                boolean has = a.gcd(m).equals(ONE);
                BigInteger want = !has || m.equals(ONE) ? BigInteger.ZERO : a.modInverse(m);
                Due.due("inverse of " + a + " by " + m, x.inverse(0, 1, 2), has ? 1 : -4);
                Due.dueSlot("inverse of " + a + " by " + m, x, 2, want);
                Due.due("inverse of " + a + " by " + m, x.inverse(0, 1, 0), has ? 1 : -4);
                Due.dueSlot("inverse of " + a + " by " + m, x, 0, has ? want : a);
            }
        }
        WideWholes x = withModuli();
        for (int bad : NO_SLOTS) {
            Due.due("inverse: a", x.inverse(bad, 1, 0), -1);
            Due.due("inverse: m", x.inverse(0, bad, 0), -1);
            Due.due("inverse: c", x.inverse(0, 1, bad), -1);
            Due.due("inverse: BAD ahead of ZERO", x.inverse(0, 2, bad), -1);
        }
        Due.due("inverse: m is 0", x.inverse(0, 2, 0), -2);
        Due.due("inverse: m is below 0", x.inverse(0, 3, 0), -3);
        Due.due("inverse: m is too long", x.inverse(0, 4, 0), -3);
        Due.due("inverse: STATE ahead of NONE", x.inverse(3, 3, 0), -3);
        Due.due("inverse of 0 by 1", x.set(5, 1), 1);
        Due.due("inverse of 0 by 1", x.inverse(2, 5, 6), 1);
        Due.dueSlot("inverse of 0 by 1", x, 6, 0);
        Due.dueSlot("refusals change nothing", x, 0, 3);
    }
}
