import java.math.BigInteger;

/** Promises 1 to 10: what comes and goes. */
public final class ComesAndGoesTest {
    public static void main(String[] args) {
        newObject();
        set();
        feed();
        read();
        readRefusals();
        readLimits();
        write();
        out();
        low();
        limbs();
        compare();
        Due.end();
    }

    private static void newObject() {
        WideWholes x = new WideWholes();
        for (int s = 0; s < 24; s++) {
            Due.due("new: low", x.low(s), 0);
            Due.due("new: limbs", x.limbs(s), 0);
            Due.due("new: length", x.length(s), 0);
        }
        for (int r = 0; r < 12; r++) {
            Due.due("new: part above", x.part(r, 0, 0), 1);
            Due.due("new: above", x.low(0), 0);
            Due.due("new: part below", x.part(r, 1, 0), 1);
            Due.due("new: below", x.low(0), 1);
        }
        Due.due("new: out(0) throws", Due.outThrows(x, 0), true);
        Due.due("new: digit(-1)", x.digit(-1), 0);
        Due.due("new: digit(-2)", x.digit(-2), 0);
        Due.due("new: digit(0)", x.digit(0), -1);
        Due.due("new: empty tape", x.read(0, 10), -10);
        Due.due("new: first feed", new WideWholes().feed(1, 1), 1);
        WideWholes y = new WideWholes();
        y.set(0, 5);
        Due.due("objects share nothing", new WideWholes().low(0), 0);
    }

    private static void set() {
        WideWholes x = new WideWholes();
        long[] values = {0, 1, -1, 4294967295L, 4294967296L, -4294967296L, Long.MAX_VALUE, Long.MIN_VALUE};
        for (long v : values) {
            for (int s : new int[] {0, 11, 23}) {
                Due.due("set", x.set(s, v), 1);
                Due.due("low", x.low(s), v);
                Due.dueSlot("set", x, s, v);
            }
        }
        Due.put(x, 4, Due.L);
        Due.put(x, 4, -3);
        Due.dueSlot("set over a long one", x, 4, -3);
        for (int s : new int[] {-1, 24, Integer.MIN_VALUE, Integer.MAX_VALUE}) {
            Due.due("set(" + s + ")", x.set(s, 1), -1);
        }
    }

    private static void feed() {
        WideWholes x = new WideWholes();
        for (int n : new int[] {0, -1, 9, Integer.MIN_VALUE, Integer.MAX_VALUE}) {
            Due.due("feed(.., " + n + ")", x.feed(0x31, n), -1);
        }
        Due.due("feed 2 of 8 bytes", x.feed(0x6162636465663132L, 2), 2);
        Due.due("feed 1", x.feed(0x133L, 1), 3);
        Due.due("read", x.read(0, 10), 1);
        Due.due("the lowest bytes, the highest first", x.low(0), 123);
        for (int k = 1; k <= 14; k++) {
            Due.due("feed 8", x.feed(0x3030303030303030L, 8), 8 * k);
        }
        Due.due("feed 7", x.feed(0x30303030303030L, 7), 119);
        Due.due("feed 2 to 119", x.feed(0x3131, 2), -5);
        Due.due("feed 8 to 119", x.feed(0x3131313131313131L, 8), -5);
        Due.due("feed 9 to 119", x.feed(0, 9), -1);
        Due.due("feed 1 to 119", x.feed(0x37, 1), 120);
        Due.due("feed 1 to 120", x.feed(0x38, 1), -5);
        Due.due("read 120 bytes", x.read(1, 10), 1);
        Due.due("what was refused is not there", x.low(1), 7);
        Due.due("it is empty then", x.feed(0x38, 1), 1);
        Due.due("a byte above 127", Due.readText(new WideWholes(), 0, "1\u00ff", 36), -11);
        Due.due("all 8 bytes", Due.readText(x, 2, "1234567", 10), 1);
        Due.due("all 8 bytes", x.low(2), 81234567);
    }

    private static void read() {
        WideWholes x = new WideWholes();
        Due.due("read", Due.readText(x, 0, "zz", 36), 1);
        Due.due("zz", x.low(0), 1295);
        Due.due("read", Due.readText(x, 0, "-101", 2), 1);
        Due.due("-101", x.low(0), -5);
        Due.due("read", Due.readText(x, 0, "-0", 7), 1);
        Due.due("-0", x.low(0), 0);
        Due.due("-0 is 0", x.compare(0, 1), 1);
        Due.due("-0 is written 0", x.write(0, 10), 1);
        Due.due("read", Due.readText(x, 0, "000123", 10), 1);
        Due.due("0 in front", x.low(0), 123);
        Due.due("read", Due.readText(x, 23, "-9223372036854775808", 10), 1);
        Due.due("the least SHORT one", x.limbs(23), 0);
        Due.due("the least SHORT one", x.low(23), Long.MIN_VALUE);
        Due.due("read", Due.readText(x, 23, "9223372036854775808", 10), 1);
        Due.due("one beyond SHORT", x.limbs(23), 2);
        BigInteger wide = Due.big("123456789012345678901234567890123456789012345678901234567890");
        for (int base = 2; base <= 36; base++) {
            BigInteger value = base < 4 ? wide.shiftRight(90) : wide;
            x = new WideWholes();
            Due.due("read in base " + base, Due.readText(x, 3, value.toString(base), base), 1);
            Due.dueSlot("read in base " + base, x, 3, value);
            Due.due("read in base " + base, Due.readText(x, 3, value.negate().toString(base), base), 1);
            Due.dueSlot("read in base " + base, x, 3, value.negate());
        }
    }

    private static void readRefusals() {
        WideWholes x = new WideWholes();
        Due.put(x, 0, 77);
        Due.feedText(x, "12");
        int[] noSlots = {-1, 24, Integer.MIN_VALUE, Integer.MAX_VALUE};
        for (int s : noSlots) {
            Due.due("read(" + s + ", 10)", x.read(s, 10), -1);
        }
        for (int base : new int[] {1, 37, 0, -10, Integer.MIN_VALUE, Integer.MAX_VALUE}) {
            Due.due("read(0, " + base + ")", x.read(0, base), -1);
        }
        Due.due("BAD leaves the tape", x.feed(0x33, 1), 3);
        Due.due("BAD leaves the tape", x.read(1, 10), 1);
        Due.due("BAD leaves the tape", x.low(1), 123);
        String[] texts = {"", "-", "--1", "1-", "+1", "12a", "-12:", "1 2", "A", "-/", "`", "{", "1.5"};
        int[] places = {0, 1, 1, 1, 0, 2, 3, 1, 0, 1, 0, 0, 1};
        for (int i = 0; i < texts.length; i++) {
            Due.due("read of '" + texts[i] + "'", Due.readText(x, 0, texts[i], 10), -10 - places[i]);
            Due.due("it is empty then", x.read(0, 10), -10);
        }
        Due.due("a digit of base 36 alone", Due.readText(x, 0, "1z", 35), -11);
        Due.due("2 in base 2", Due.readText(x, 0, "102", 2), -12);
        Due.due("a capital letter", Due.readText(x, 0, "aB", 36), -11);
        Due.dueSlot("refusals change nothing", x, 0, 77);
    }

    private static void readLimits() {
        WideWholes x = new WideWholes();
        BigInteger beyond = Due.L.add(BigInteger.ONE);
        Due.due("L", Due.readText(x, 0, Due.L.toString(16), 16), 1);
        Due.dueSlot("L", x, 0, Due.L);
        Due.due("-L", Due.readText(x, 1, Due.L.negate().toString(), 10), 1);
        Due.dueSlot("-L", x, 1, Due.L.negate());
        Due.due("L + 1", Due.readText(x, 0, beyond.toString(), 10), -5);
        Due.due("-L - 1", Due.readText(x, 0, beyond.negate().toString(), 10), -5);
        Due.due("it is empty then", x.read(0, 10), -10);
        Due.due("the longest", Due.readText(x, 0, "z".repeat(120), 36), -5);
        Due.due("WRONG comes ahead of FULL", Due.readText(x, 0, "z".repeat(119) + "-", 36), -129);
        Due.due("0 in front", Due.readText(x, 2, "0".repeat(119) + "9", 10), 1);
        Due.due("0 in front", x.low(2), 9);
        Due.dueSlot("FULL changes nothing", x, 0, Due.L);
    }

    private static void write() {
        WideWholes x = new WideWholes();
        Due.due("write 0", x.write(0, 2), 1);
        Due.due("write 0", Due.outText(x, 1), "0");
        BigInteger[] values = {BigInteger.ONE, BigInteger.valueOf(-1), BigInteger.valueOf(Long.MIN_VALUE),
            Due.two(64), Due.two(383), Due.L, Due.L.negate(), Due.big("-1000000000000000000000000000000")};
        for (BigInteger value : values) {
            for (int base = 2; base <= 36; base++) {
                x = new WideWholes();
                Due.put(x, 5, value);
                String want = value.toString(base);
                Due.due("write in base " + base, x.write(5, base), want.length());
                Due.due("write in base " + base, Due.outText(x, want.length()), want);
                Due.due("no byte beyond", Due.outThrows(x, want.length()), true);
            }
        }
        x = new WideWholes();
        Due.put(x, 5, Due.L.negate());
        Due.due("-L in base 2", x.write(5, 2), 385);
        for (int bad : new int[] {-1, 24, Integer.MIN_VALUE, Integer.MAX_VALUE}) {
            Due.due("write(" + bad + ", 10)", x.write(bad, 10), -1);
        }
        for (int bad : new int[] {1, 37, 0, -2, Integer.MIN_VALUE, Integer.MAX_VALUE}) {
            Due.due("write(5, " + bad + ")", x.write(5, bad), -1);
        }
        Due.due("BAD leaves OUT", Due.outThrows(x, 384), false);
        Due.due("BAD leaves OUT", Due.outText(x, 3), "-11");
    }

    private static void out() {
        WideWholes x = new WideWholes();
        Due.put(x, 0, -45);
        Due.due("write", x.write(0, 10), 3);
        Due.due("out(0)", x.out(0), '-');
        Due.due("out(1)", x.out(1), '4');
        Due.due("out(2)", x.out(2), '5');
        for (int i : new int[] {3, -1, 385, Integer.MIN_VALUE, Integer.MAX_VALUE}) {
            Due.due("out(" + i + ") throws", Due.outThrows(x, i), true);
        }
        Due.put(x, 0, 7);
        Due.due("OUT stays as it was written", Due.outText(x, 3), "-45");
        Due.due("a shorter one", x.write(0, 10), 1);
        Due.due("a shorter one", Due.outThrows(x, 1), true);
    }

    private static void low() {
        WideWholes x = new WideWholes();
        BigInteger wide = Due.big("98765432109876543210987654321098765432109876543210");
        for (BigInteger value : new BigInteger[] {wide, wide.negate(), Due.two(64), Due.two(64).negate(), Due.L,
            Due.L.negate(), Due.two(63), Due.two(200).negate()}) {
            Due.put(x, 9, value);
            Due.due("low of " + value, x.low(9), value.longValue());
        }
        for (int bad : new int[] {-1, 24, Integer.MIN_VALUE, Integer.MAX_VALUE}) {
            Due.due("low(" + bad + ")", x.low(bad), 0);
        }
    }

    private static void limbs() {
        WideWholes x = new WideWholes();
        BigInteger[] values = {BigInteger.ZERO, BigInteger.valueOf(-1), BigInteger.valueOf(Long.MAX_VALUE),
            BigInteger.valueOf(Long.MIN_VALUE), Due.two(63), Due.two(63).negate().subtract(BigInteger.ONE),
            Due.two(64).subtract(BigInteger.ONE), Due.two(64), Due.two(96).negate(), Due.two(352), Due.L, Due.L.negate()};
        int[] counts = {0, 0, 0, 0, 2, 2, 2, 3, 4, 12, 12, 12};
        for (int i = 0; i < values.length; i++) {
            Due.put(x, 7, values[i]);
            Due.due("limbs of " + values[i], x.limbs(7), counts[i]);
            for (int k = -1; k <= 13; k++) {
                long want = k < 0 ? 0 : values[i].abs().shiftRight(32 * k).longValue() & 0xFFFFFFFFL;
                Due.due("limb " + k + " of " + values[i], x.limb(7, k), want);
            }
        }
        Due.put(x, 7, Due.L);
        Due.put(x, 7, -6);
        Due.due("limb(7, 0) of -6", x.limb(7, 0), 6);
        Due.due("limb(7, 1) of -6", x.limb(7, 1), 0);
        for (int bad : new int[] {-1, 24, Integer.MIN_VALUE, Integer.MAX_VALUE}) {
            Due.due("limbs(" + bad + ")", x.limbs(bad), -1);
            Due.due("limb(" + bad + ", 0)", x.limb(bad, 0), 0);
            Due.due("limb(7, " + bad + ")", x.limb(7, bad), 0);
        }
    }

    private static void compare() {
        WideWholes x = new WideWholes();
        BigInteger[] rising = {Due.L.negate(), Due.two(200).negate(), Due.two(63).negate().subtract(BigInteger.ONE),
            BigInteger.valueOf(Long.MIN_VALUE), BigInteger.valueOf(-1), BigInteger.ZERO, BigInteger.ONE,
            BigInteger.valueOf(Long.MAX_VALUE), Due.two(63), Due.two(64), Due.two(64).add(BigInteger.ONE), Due.L};
        for (int i = 0; i < rising.length; i++) {
            Due.put(x, i, rising[i]);
        }
        for (int a = 0; a < rising.length; a++) {
            for (int b = 0; b < rising.length; b++) {
                Due.due("compare(" + a + ", " + b + ")", x.compare(a, b), a < b ? 0 : a == b ? 1 : 2);
            }
        }
        Due.put(x, 20, Due.two(64));
        Due.due("like ones in two slots", x.compare(20, 9), 1);
        for (int bad : new int[] {-1, 24, Integer.MIN_VALUE, Integer.MAX_VALUE}) {
            Due.due("compare(" + bad + ", 0)", x.compare(bad, 0), -1);
            Due.due("compare(0, " + bad + ")", x.compare(0, bad), -1);
        }
    }
}
