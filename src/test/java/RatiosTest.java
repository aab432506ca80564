import java.math.BigInteger;

/** Promises 23 to 28: ratios. */
public final class RatiosTest {
    private static final int[] NO_SLOTS = {-1, 24, Integer.MIN_VALUE, Integer.MAX_VALUE};
    private static final int[] NO_RATIOS = {-1, 12, Integer.MIN_VALUE, Integer.MAX_VALUE};
    private static final BigInteger ONE = BigInteger.ONE;

    public static void main(String[] args) {
        ratio();
        actRatio();
        actRatioLimits();
        actRatioRefusals();
        compareRatio();
        part();
        digits();
        digitsLimits();
        digitsOfMany();
        digitRefusals();
        Due.end();
    }

    private static void ratio() {
        WideWholes x = new WideWholes();
        long[][] rows = {{6, 4, 3, 2}, {-6, 4, -3, 2}, {6, -4, -3, 2}, {-6, -4, 3, 2}, {0, 5, 0, 1}, {0, -5, 0, 1},
            {7, 7, 1, 1}, {-7, 7, -1, 1}, {1, 9, 1, 9}, {12, 3, 4, 1}};
        for (long[] row : rows) {
            Due.putRatio(x, 11, row[0], row[1]);
            Due.dueRatio("ratio of " + row[0] + ", " + row[1], x, 11, row[2], row[3]);
        }
        Due.putRatio(x, 0, Due.L, Due.L.negate());
        Due.dueRatio("L above -L", x, 0, -1, 1);
        Due.putRatio(x, 0, Due.L, Due.L.subtract(ONE).negate());
        Due.dueRatio("L above -(L - 1)", x, 0, Due.L.negate(), Due.L.subtract(ONE));
        Due.putRatio(x, 0, Long.MIN_VALUE, -1);
        Due.dueRatio("the least SHORT one above -1", x, 0, Due.two(63), ONE);
        Due.put(x, 0, 5);
        Due.due("ratio: by 0", x.ratio(0, 1, 0), -2);
        for (int bad : NO_SLOTS) {
            Due.due("ratio: a", x.ratio(bad, 0, 0), -1);
            Due.due("ratio: b", x.ratio(0, bad, 0), -1);
        }
        for (int bad : NO_RATIOS) {
            Due.due("ratio: r", x.ratio(0, 0, bad), -1);
            Due.due("ratio: BAD ahead of ZERO", x.ratio(0, 1, bad), -1);
        }
        Due.dueRatio("refusals change nothing", x, 0, Due.two(63), ONE);
    }

    private static final long[][] SMALL = {{0, 1}, {1, 1}, {-1, 1}, {1, 2}, {-1, 2}, {2, 3}, {-5, 6}, {7, 12}, {5, 12},
        {-7, 12}, {12, 5}, {9, 10}, {1000000007, 998244353}, {Long.MAX_VALUE, 10}, {Long.MIN_VALUE, 3}};

    private static void actRatio() {
        for (long[] p : SMALL) {
            for (long[] q : SMALL) {
                for (int how = 0; how <= (q[0] == 0 ? 2 : 3); how++) {
                    for (int r = 0; r <= 2; r++) {
                        WideWholes x = new WideWholes();
                        Due.putRatio(x, 0, p[0], p[1]);
                        Due.putRatio(x, 1, q[0], q[1]);
                        String call = "actRatio " + how + " of " + p[0] + "/" + p[1] + ", " + q[0] + "/" + q[1];
                        Due.due(call, x.actRatio(how, 0, 1, r), 1);
                        BigInteger[] want = reckon(how, p, q);
                        Due.dueRatio(call, x, r, want[0], want[1]);
                    }
                }
            }
        }
        WideWholes x = new WideWholes();
        Due.putRatio(x, 4, -3, 7);
        Due.due("actRatio on one alone", x.actRatio(3, 4, 4, 4), 1);
        Due.dueRatio("actRatio on one alone", x, 4, 1, 1);
        Due.due("actRatio on one alone", x.actRatio(1, 4, 4, 4), 1);
        Due.dueRatio("actRatio on one alone", x, 4, 0, 1);
    }

    private static BigInteger[] reckon(int how, long[] p, long[] q) {
        BigInteger a = BigInteger.valueOf(p[0]);
        BigInteger b = BigInteger.valueOf(p[1]);
        BigInteger c = BigInteger.valueOf(q[0]);
        BigInteger d = BigInteger.valueOf(q[1]);
        BigInteger first = a.multiply(d);
        BigInteger second = c.multiply(b);
        BigInteger top = how == 0 ? first.add(second) : how == 1 ? first.subtract(second) : how == 2 ? a.multiply(c) : first;
        BigInteger bottom = how == 3 ? second : b.multiply(d);
        BigInteger by = bottom.signum() < 0 ? top.gcd(bottom).negate() : top.gcd(bottom);
        return new BigInteger[] {top.divide(by), bottom.divide(by)};
    }

    /** What is met on the way does not count: only what stands above or below at the end. */
    private static void actRatioLimits() {
        WideWholes x = new WideWholes();
        BigInteger wide = Due.L.subtract(BigInteger.TWO);
        Due.putRatio(x, 0, wide, Due.L);
        Due.putRatio(x, 1, Due.L, wide);
        Due.due("a product that cuts to 1", x.actRatio(2, 0, 1, 2), 1);
        Due.dueRatio("a product that cuts to 1", x, 2, 1, 1);
        Due.due("a sum below the limit", x.actRatio(1, 0, 0, 2), 1);
        Due.dueRatio("a sum below the limit", x, 2, 0, 1);
        Due.due("by itself", x.actRatio(3, 1, 1, 2), 1);
        Due.dueRatio("by itself", x, 2, 1, 1);
        Due.due("beyond above and below", x.actRatio(2, 0, 0, 0), -5);
        Due.due("beyond: sum", x.actRatio(0, 0, 1, 0), -5);
        Due.due("beyond: difference", x.actRatio(1, 0, 1, 1), -5);
        Due.due("beyond: quotient", x.actRatio(3, 0, 1, 1), -5);
        Due.dueRatio("FULL changes nothing", x, 0, wide, Due.L);
        Due.dueRatio("FULL changes nothing", x, 1, Due.L, wide);
        Due.putRatio(x, 3, Due.L, ONE);
        Due.putRatio(x, 4, 1, 1);
        Due.due("L + 1", x.actRatio(0, 3, 4, 5), -5);
        Due.due("L - 1", x.actRatio(1, 3, 4, 5), 1);
        Due.dueRatio("L - 1", x, 5, Due.L.subtract(ONE), ONE);
        Due.putRatio(x, 6, ONE, Due.L);
        Due.putRatio(x, 7, 1, 2);
        Due.due("1 above 2 L", x.actRatio(2, 6, 7, 8), -5);
        Due.due("2 above L", x.actRatio(3, 6, 7, 8), 1);
        Due.dueRatio("2 above L", x, 8, BigInteger.TWO, Due.L);
        Due.due("a sum whose bottom shrinks", x.actRatio(0, 0, 6, 8), 1);
        Due.dueRatio("a sum whose bottom shrinks", x, 8, Due.L.subtract(ONE), Due.L);
    }

    private static void actRatioRefusals() {
        WideWholes x = new WideWholes();
        Due.putRatio(x, 0, 2, 3);
        for (int bad : NO_RATIOS) {
            Due.due("actRatio: p", x.actRatio(0, bad, 0, 0), -1);
            Due.due("actRatio: q", x.actRatio(0, 0, bad, 0), -1);
            Due.due("actRatio: r", x.actRatio(0, 0, 0, bad), -1);
            Due.due("actRatio: BAD ahead of ZERO", x.actRatio(3, 0, 1, bad), -1);
        }
        for (int how : new int[] {-1, 4, Integer.MIN_VALUE, Integer.MAX_VALUE}) {
            Due.due("actRatio(" + how + ")", x.actRatio(how, 0, 0, 0), -1);
        }
        Due.due("actRatio: by 0", x.actRatio(3, 0, 1, 0), -2);
        Due.due("actRatio: 0 by 0", x.actRatio(3, 1, 1, 0), -2);
        Due.dueRatio("refusals change nothing", x, 0, 2, 3);
        Due.due("actRatio: times 0", x.actRatio(2, 0, 1, 0), 1);
        Due.dueRatio("actRatio: times 0", x, 0, 0, 1);
    }

    private static void compareRatio() {
        WideWholes x = new WideWholes();
        BigInteger wide = Due.L.subtract(ONE);
        BigInteger[][] rising = {{Due.L.negate(), ONE}, {BigInteger.valueOf(-3), BigInteger.TWO}, {ONE.negate(), ONE},
            {wide.negate(), Due.L}, {BigInteger.ZERO, ONE}, {ONE, Due.L}, {ONE, wide}, {ONE, BigInteger.TWO},
            {wide, Due.L}, {ONE, ONE}, {Due.L, wide}, {Due.L, ONE}};
        for (int r = 0; r < rising.length; r++) {
            Due.putRatio(x, r, rising[r][0], rising[r][1]);
        }
        for (int p = 0; p < rising.length; p++) {
            for (int q = 0; q < rising.length; q++) {
                Due.due("compareRatio(" + p + ", " + q + ")", x.compareRatio(p, q), p < q ? 0 : p == q ? 1 : 2);
            }
        }
        Due.putRatio(x, 0, 2, 4);
        Due.due("like ones", x.compareRatio(0, 7), 1);
        for (int bad : NO_RATIOS) {
            Due.due("compareRatio: p", x.compareRatio(bad, 0), -1);
            Due.due("compareRatio: q", x.compareRatio(0, bad), -1);
        }
    }

    private static void part() {
        WideWholes x = new WideWholes();
        long[][] rows = {{0, 1, 0, 0}, {1, 2, 0, 0}, {-1, 2, -1, 0}, {3, 2, 1, 2}, {-3, 2, -2, -2}, {5, 2, 2, 2},
            {-5, 2, -3, -2}, {7, 3, 2, 2}, {8, 3, 2, 3}, {-7, 3, -3, -2}, {-8, 3, -3, -3}, {9, 1, 9, 9}, {-9, 1, -9, -9},
            {3, 4, 0, 1}, {1, 4, 0, 0}, {-3, 4, -1, -1}, {-1, 4, -1, 0}, {7, 2, 3, 4}, {-7, 2, -4, -4}};
        for (long[] row : rows) {
            x = new WideWholes();
            Due.putRatio(x, 3, row[0], row[1]);
            for (int which = 0; which <= 3; which++) {
                String call = "part " + which + " of " + row[0] + "/" + row[1];
                Due.due(call, x.part(3, which, 7), 1);
                Due.dueSlot(call, x, 7, row[which]);
            }
        }
        Due.putRatio(x, 0, Due.L.negate(), BigInteger.TWO);
        Due.due("part 2", x.part(0, 2, 0), 1);
        Due.dueSlot("-L by 2, down", x, 0, Due.two(383).negate());
        Due.due("part 3", x.part(0, 3, 0), 1);
        Due.dueSlot("-L by 2, the even one", x, 0, Due.two(383).negate());
        Due.putRatio(x, 0, Due.L, Due.L.subtract(ONE));
        Due.due("part 3", x.part(0, 3, 0), 1);
        Due.dueSlot("a little above 1", x, 0, 1);
        for (int bad : NO_SLOTS) {
            Due.due("part: s", x.part(0, 0, bad), -1);
        }
        for (int bad : NO_RATIOS) {
            Due.due("part: r", x.part(bad, 0, 0), -1);
        }
        for (int bad : new int[] {-1, 4, Integer.MIN_VALUE, Integer.MAX_VALUE}) {
            Due.due("part: which " + bad, x.part(0, bad, 0), -1);
        }
        Due.dueSlot("refusals change nothing", x, 0, 1);
    }

    private static void dueDigits(WideWholes x, long p, long q, int base, int head, String want) {
        String call = "digits of " + p + "/" + q + " in base " + base;
        Due.putRatio(x, 2, p, q);
        Due.due(call, x.digits(2, base), want.length());
        Due.due(call + ": HEAD", x.digit(-1), head);
        Due.due(call + ": ROUND", x.digit(-2), want.length() - head);
        for (int i = 0; i < want.length(); i++) {
            Due.due(call + ": digit " + i, x.digit(i), Character.digit(want.charAt(i), 36));
        }
        Due.due(call + ": none beyond", x.digit(want.length()), -1);
    }

    private static void digits() {
        WideWholes x = new WideWholes();
        dueDigits(x, 1, 7, 10, 0, "142857");
        dueDigits(x, -22, 7, 10, 0, "142857");
        dueDigits(x, 5, 12, 10, 2, "416");
        dueDigits(x, 1, 97, 10, 0, "010309278350515463917525773195876288659793814432989690721649484536082474226804123711340206185567");
        Due.due("digits", x.digit(-3), -1);
    }

    private static void digitsLimits() {
        WideWholes x = new WideWholes();
        dueEnds(x, 1, 8, 10, "125");
        dueEnds(x, -7, 4, 10, "75");
        dueEnds(x, 5, 1, 10, "");
        dueEnds(x, 0, 1, 36, "");
        dueEnds(x, 35, 36, 36, "z");
        dueEnds(x, 1, 6, 36, "6");
        dueDigits(x, 1, 35, 36, 0, "1");
        Due.putRatio(x, 0, ONE, Due.two(200));
        Due.due("200 digits that end", x.digits(0, 2), 200);
        Due.due("200 digits that end", x.digit(-1), 200);
        Due.due("200 digits that end", x.digit(-2), 0);
        Due.due("200 digits that end", x.digit(199), 1);
        Due.due("200 digits that end", x.digit(198), 0);
        Due.due("200 digits that end", x.digit(200), -1);
        Due.putRatio(x, 1, ONE, Due.two(201));
        Due.due("201 digits that end", x.digits(1, 2), -4);
        Due.putRatio(x, 1, ONE, Due.two(200).subtract(ONE));
        Due.due("200 digits that go round", x.digits(1, 2), 200);
        Due.due("200 digits that go round", x.digit(-1), 0);
        Due.due("200 digits that go round", x.digit(-2), 200);
        Due.putRatio(x, 1, ONE, Due.two(201).subtract(ONE));
        Due.due("201 digits that go round", x.digits(1, 2), -4);
        Due.putRatio(x, 1, ONE, Due.two(199).subtract(ONE).shiftLeft(1));
        Due.due("1 and 199 digits", x.digits(1, 2), 200);
        Due.due("1 and 199 digits", x.digit(-1), 1);
        Due.due("1 and 199 digits", x.digit(-2), 199);
        Due.putRatio(x, 1, ONE, Due.two(199).subtract(ONE).shiftLeft(2));
        Due.due("2 and 199 digits", x.digits(1, 2), -4);
        Due.putRatio(x, 1, ONE, Due.two(184).subtract(ONE).shiftLeft(200));
        Due.due("200 and 184 digits", x.digits(1, 2), -4);
        Due.due("NONE changes nothing", x.digit(-1), 1);
        Due.due("NONE changes nothing", x.digit(-2), 199);
        Due.due("NONE changes nothing", x.digit(199), 1);
        Due.due("NONE changes nothing", x.digit(198), 0);
    }

    /** Every base, and bottoms that share all, some or nothing with it, against the model's plain walk. */
    private static void digitsOfMany() {
        for (int q = 1; q <= 150; q++) {
            for (int p = -q; p <= 2 * q; p += 1 + q / 3) {
                Model m = new Model();
                m.set(0, p);
                m.set(1, q);
                m.ratio(0, 1, 0);
                for (int base = 2; base <= 36; base++) {
                    WideWholes x = new WideWholes();
                    Due.putRatio(x, 0, p, q);
                    String call = "digits of " + p + "/" + q + " in base " + base;
                    int count = m.digits(0, base);
                    Due.due(call, x.digits(0, base), count);
                    for (int i = -3; i <= count; i++) {
                        Due.due(call + ": digit " + i, x.digit(i), m.digit(i));
                    }
                }
            }
        }
    }

    private static void dueEnds(WideWholes x, long p, long q, int base, String want) {
        dueDigits(x, p, q, base, want.length(), want);
    }

    private static void digitRefusals() {
        WideWholes x = new WideWholes();
        for (int i : new int[] {0, 1, -3, 199, 200, Integer.MIN_VALUE, Integer.MAX_VALUE}) {
            Due.due("digit(" + i + ") before one", x.digit(i), -1);
        }
        Due.putRatio(x, 0, 1, 6);
        Due.due("digits", x.digits(0, 10), 2);
        for (int bad : NO_RATIOS) {
            Due.due("digits: r", x.digits(bad, 10), -1);
        }
        for (int base : new int[] {1, 37, 0, -10, Integer.MIN_VALUE, Integer.MAX_VALUE}) {
            Due.due("digits: base " + base, x.digits(0, base), -1);
        }
        for (int i : new int[] {2, -3, 200, Integer.MIN_VALUE, Integer.MAX_VALUE}) {
            Due.due("digit(" + i + ")", x.digit(i), -1);
        }
        Due.putRatio(x, 0, 1, 7);
        Due.due("BAD and a new ratio change nothing: 0", x.digit(0), 1);
        Due.due("BAD and a new ratio change nothing: 1", x.digit(1), 6);
    }
}
