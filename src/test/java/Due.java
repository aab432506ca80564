import java.math.BigInteger;

/** What the tests share: compares answers with those that are due, and moves wide wholes in and out. */
final class Due {
    static final BigInteger L = BigInteger.ONE.shiftLeft(384).subtract(BigInteger.ONE);

    private static final int MOST_TOLD = 20;

    private static int asked = 0;
    private static int wrong = 0;
    private static int told = 0;
    private static String sentence = "";

    private Due() {
    }

    static void due(String call, long got, long want) {
        asked++;
        if (got != want) {
            tell(call + " answered " + got + ", due is " + want);
        }
    }

    static void due(String call, Object got, Object want) {
        asked++;
        if (!want.equals(got)) {
            tell(call + " is " + got + ", due is " + want);
        }
    }

    private static void tell(String fault) {
        wrong++;
        told++;
        if (told <= MOST_TOLD) {
            System.out.println(sentence + fault);
        }
    }

    /** The sentence of the document that the answers from here on are held to: its faults are told with it. */
    static void under(String words) {
        sentence = words + "\n    ";
        told = 0;
    }

    static int asked() {
        return asked;
    }

    static void end() {
        System.out.println(asked + " answers, " + wrong + " not as due");
        if (wrong != 0 || asked == 0) {
            System.exit(1);
        }
    }

    static BigInteger big(String decimal) {
        return new BigInteger(decimal);
    }

    static BigInteger two(int n) {
        return BigInteger.ONE.shiftLeft(n);
    }

    /** Of a text such as -12, L, -L+1 or 2^192-1. */
    static BigInteger whole(String text) {
        int sign = Math.max(text.lastIndexOf('+'), text.lastIndexOf('-'));
        if (sign > 0) {
            BigInteger by = big(text.substring(sign + 1));
            BigInteger from = whole(text.substring(0, sign));
            return text.charAt(sign) == '+' ? from.add(by) : from.subtract(by);
        }
        if (sign == 0) {
            return whole(text.substring(1)).negate();
        }
        int power = text.indexOf('^');
        if (power > 0) {
            return big(text.substring(0, power)).pow(Integer.parseInt(text.substring(power + 1)));
        }
        return text.equals("L") ? L : big(text);
    }

    /** A new object whose first slots are these. */
    static WideWholes with(BigInteger... values) {
        WideWholes x = new WideWholes();
        for (int s = 0; s < values.length; s++) {
            put(x, s, values[s]);
        }
        return x;
    }

    static WideWholes with(String... values) {
        BigInteger[] wholes = new BigInteger[values.length];
        for (int s = 0; s < values.length; s++) {
            wholes[s] = whole(values[s]);
        }
        return with(wholes);
    }

    static int feedText(WideWholes x, String text) {
        int answer = 0;
        for (int from = 0; from < text.length(); from += 8) {
            int to = Math.min(from + 8, text.length());
            long w = 0;
            for (int i = from; i < to; i++) {
                w = w << 8 | text.charAt(i) & 255;
            }
            answer = x.feed(w, to - from);
        }
        return answer;
    }

    static int readText(WideWholes x, int s, String text, int base) {
        feedText(x, text);
        return x.read(s, base);
    }

    static void put(WideWholes x, int s, BigInteger value) {
        due("read of " + value, readText(x, s, value.toString(36), 36), 1);
    }

    static void put(WideWholes x, int s, long value) {
        due("set(" + s + ", " + value + ")", x.set(s, value), 1);
    }

    static String outText(WideWholes x, int count) {
        StringBuilder text = new StringBuilder();
        for (int i = 0; i < count; i++) {
            text.append((char) x.out(i));
        }
        return text.toString();
    }

    /** By calls that change nothing, and by few of them: an object has 512. */
    static BigInteger get(WideWholes x, int s) {
        BigInteger size = BigInteger.ZERO;
        for (int k = Math.max(2, x.limbs(s)) - 1; k >= 0; k--) {
            size = size.shiftLeft(32).add(BigInteger.valueOf(x.limb(s, k)));
        }
        return x.bit(s, 384) == 1 ? size.negate() : size;
    }

    static void dueSlot(String call, WideWholes x, int s, BigInteger want) {
        due(call + ": slot " + s, get(x, s), want);
    }

    static void dueSlot(String call, WideWholes x, int s, long want) {
        dueSlot(call, x, s, BigInteger.valueOf(want));
    }

    static void dueSlot(String call, WideWholes x, int s, String want) {
        dueSlot(call, x, s, whole(want));
    }

    /** Slots 22 and 23 carry it there. */
    static void putRatio(WideWholes x, int r, BigInteger p, BigInteger q) {
        put(x, 22, p);
        put(x, 23, q);
        due("ratio of " + p + ", " + q, x.ratio(22, 23, r), 1);
    }

    static void putRatio(WideWholes x, int r, long p, long q) {
        putRatio(x, r, BigInteger.valueOf(p), BigInteger.valueOf(q));
    }

    static void putRatio(WideWholes x, int r, String p, String q) {
        putRatio(x, r, whole(p), whole(q));
    }

    /** Slot 22 carries it out. */
    static void dueRatio(String call, WideWholes x, int r, BigInteger p, BigInteger q) {
        due(call, x.part(r, 0, 22), 1);
        dueSlot(call + ": above", x, 22, p);
        due(call, x.part(r, 1, 22), 1);
        dueSlot(call + ": below", x, 22, q);
    }

    static void dueRatio(String call, WideWholes x, int r, long p, long q) {
        dueRatio(call, x, r, BigInteger.valueOf(p), BigInteger.valueOf(q));
    }

    static void dueRatio(String call, WideWholes x, int r, String p, String q) {
        dueRatio(call, x, r, whole(p), whole(q));
    }

    /** True only of the exception that the document names, not of one of the machine's below it. */
    static boolean outThrows(WideWholes x, int i) {
        try {
            x.out(i);
            return false;
        } catch (IndexOutOfBoundsException e) {
            due("what out(" + i + ") throws", e.getClass(), IndexOutOfBoundsException.class);
            return true;
        }
    }
}
