import java.math.BigInteger;

/** Promises 18 to 22: bits. */
public final class BitsTest {
    private static final int[] NO_SLOTS = {-1, 24, Integer.MIN_VALUE, Integer.MAX_VALUE};
    private static final BigInteger ONE = BigInteger.ONE;
    private static final BigInteger[] SOME = {BigInteger.ZERO, ONE, ONE.negate(), BigInteger.valueOf(-2),
        BigInteger.valueOf(0x0123456789ABCDEFL), BigInteger.valueOf(Long.MIN_VALUE), Due.two(32).negate(), Due.two(63),
        Due.two(64).subtract(ONE).negate(), Due.two(128).add(ONE).negate(), Due.two(200).subtract(Due.two(77)),
        Due.two(383), Due.two(383).negate(), Due.L, Due.L.negate(), Due.L.subtract(ONE).negate()};

    public static void main(String[] args) {
        bits();
        shift();
        shiftRefusals();
        bit();
        length();
        ones();
        Due.end();
    }

    private static void bits() {
        for (BigInteger p : SOME) {
            for (BigInteger q : SOME) {
                BigInteger[] want = {p.and(q), p.or(q), p.xor(q), p.andNot(q)};
                for (int how = 0; how <= 3; how++) {
                    for (int c = 0; c <= 2; c++) {
                        WideWholes x = new WideWholes();
                        Due.put(x, 0, p);
                        Due.put(x, 1, q);
                        String call = "bits " + how + " of " + p + ", " + q;
                        BigInteger was = c == 0 ? p : c == 1 ? q : BigInteger.ZERO;
                        boolean beyond = want[how].abs().compareTo(Due.L) > 0;
                        Due.due(call, x.bits(how, 0, 1, c), beyond ? -5 : 1);
                        Due.dueSlot(call, x, c, beyond ? was : want[how]);
                    }
                }
            }
        }
        WideWholes x = new WideWholes();
        Due.put(x, 0, Due.L.negate());
        Due.put(x, 1, -2);
        Due.due("-L and -2 is beyond", x.bits(0, 0, 1, 0), -5);
        Due.dueSlot("FULL changes nothing", x, 0, Due.L.negate());
        for (int bad : NO_SLOTS) {
            Due.due("bits: a", x.bits(0, bad, 1, 0), -1);
            Due.due("bits: b", x.bits(0, 0, bad, 0), -1);
            Due.due("bits: c", x.bits(0, 0, 1, bad), -1);
        }
        for (int how : new int[] {-1, 4, Integer.MIN_VALUE, Integer.MAX_VALUE}) {
            Due.due("bits(" + how + ")", x.bits(how, 0, 1, 0), -1);
        }
    }

    private static void shift() {
        int[] places = {0, 1, -1, 31, -31, 32, -32, 33, -33, 63, -63, 64, -64, 65, -77, 100, -100, 127, -200, 319, 320,
            383, -383, 384, -384, 385, -385, 415, 416, 999, 1000, -999, -1000};
        for (BigInteger a : SOME) {
            for (int n : places) {
                WideWholes x = new WideWholes();
                String call = "shift of " + a + " by " + n;
                BigInteger want = a.shiftLeft(n);
                boolean beyond = want.abs().compareTo(Due.L) > 0;
                Due.put(x, 0, a);
                Due.due(call, x.shift(0, n, 1), beyond ? -5 : 1);
                Due.dueSlot(call, x, 1, beyond ? BigInteger.ZERO : want);
                Due.due(call, x.shift(0, n, 0), beyond ? -5 : 1);
                Due.dueSlot(call, x, 0, beyond ? a : want);
            }
        }
    }

    private static void shiftRefusals() {
        WideWholes x = new WideWholes();
        Due.put(x, 0, 6);
        for (int bad : NO_SLOTS) {
            Due.due("shift: a", x.shift(bad, 1, 0), -1);
            Due.due("shift: c", x.shift(0, 1, bad), -1);
        }
        for (int n : new int[] {-1001, 1001, Integer.MIN_VALUE, Integer.MAX_VALUE}) {
            Due.due("shift: n " + n, x.shift(0, n, 0), -1);
            Due.due("shift of 0: n " + n, x.shift(1, n, 1), -1);
        }
        Due.dueSlot("refusals change nothing", x, 0, 6);
    }

    private static void bit() {
        for (BigInteger a : SOME) {
            WideWholes x = Due.with(a);
            for (int k = 0; k <= 450; k++) {
                Due.due("bit " + k + " of " + a, x.bit(0, k), a.testBit(k) ? 1 : 0);
            }
            int sign = a.signum() < 0 ? 1 : 0;
            Due.due("bit of " + a + " far up", x.bit(0, Integer.MAX_VALUE), sign);
            Due.due("bit -1", x.bit(0, -1), -1);
            Due.due("the least bit", x.bit(0, Integer.MIN_VALUE), -1);
        }
        for (int bad : NO_SLOTS) {
            Due.due("bit: a", new WideWholes().bit(bad, 0), -1);
        }
    }

    private static void length() {
        WideWholes x = new WideWholes();
        for (BigInteger a : SOME) {
            Due.put(x, 23, a);
            Due.due("length of " + a, x.length(23), a.abs().bitLength());
        }
        Due.put(x, 23, -8);
        Due.due("length of -8", x.length(23), 4);
        for (int k = 0; k < 384; k++) {
            Due.due("length of 2 to the power of " + k, Due.with(Due.two(k)).length(0), k + 1);
        }
        for (int bad : NO_SLOTS) {
            Due.due("length: a", x.length(bad), -1);
        }
    }

    private static void ones() {
        WideWholes x = new WideWholes();
        for (BigInteger a : SOME) {
            Due.put(x, 0, a);
            Due.due("ones of " + a, x.ones(0), a.bitCount());
        }
        Due.put(x, 0, -1);
        Due.due("ones of -1", x.ones(0), 0);
        Due.due("ones of 0", x.ones(1), 0);
        Due.put(x, 0, Due.L);
        Due.due("ones of L", x.ones(0), 384);
        Due.put(x, 0, Due.L.negate());
        Due.due("ones of -L", x.ones(0), 383);
        for (int bad : NO_SLOTS) {
            Due.due("ones: a", x.ones(bad), -1);
        }
    }
}
