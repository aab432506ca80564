import java.math.BigInteger;

/** What the tests share: compares answers with those that are due, and moves wide wholes in and out. */
final class Due {
    static final BigInteger L = BigInteger.ONE.shiftLeft(384).subtract(BigInteger.ONE);

    private static int asked = 0;
    private static int wrong = 0;

    private Due() {
    }

    static void due(String call, long got, long want) {
        asked++;
        if (got != want) {
            wrong++;
            if (wrong <= 100) {
                System.out.println(call + " answered " + got + ", due is " + want);
            }
        }
    }

    static void due(String call, Object got, Object want) {
        asked++;
        if (!want.equals(got)) {
            wrong++;
            if (wrong <= 100) {
                System.out.println(call + " is " + got + ", due is " + want);
            }
        }
    }

    static void end() {
        System.out.println(asked + " answers, " + wrong + " not as due");
        if (wrong != 0 || asked == 0) {
            System.exit(1);
        }
    }

    static BigInteger big(String decimal) {
        return new BigInteger(decimal);
    }

    static BigInteger two(int n) {
        return BigInteger.ONE.shiftLeft(n);
    }

    static int feedText(WideWholes x, String text) {
        int answer = 0;
        for (int from = 0; from < text.length(); from += 8) {
            int to = Math.min(from + 8, text.length());
            long w = 0;
            for (int i = from; i < to; i++) {
                w = w << 8 | text.charAt(i) & 255;
            }
            answer = x.feed(w, to - from);
        }
        return answer;
    }

    static int readText(WideWholes x, int s, String text, int base) {
        feedText(x, text);
        return x.read(s, base);
    }

    static void put(WideWholes x, int s, BigInteger value) {
        due("read of " + value, readText(x, s, value.toString(36), 36), 1);
    }

    static void put(WideWholes x, int s, long value) {
        due("set(" + s + ", " + value + ")", x.set(s, value), 1);
    }

    static String outText(WideWholes x, int count) {
        StringBuilder text = new StringBuilder();
        for (int i = 0; i < count; i++) {
            text.append((char) x.out(i));
        }
        return text.toString();
    }

    static BigInteger get(WideWholes x, int s) {
        return new BigInteger(outText(x, x.write(s, 36)), 36);
    }

    static void dueSlot(String call, WideWholes x, int s, BigInteger want) {
        due(call + ": slot " + s, get(x, s), want);
    }

    static void dueSlot(String call, WideWholes x, int s, long want) {
        dueSlot(call, x, s, BigInteger.valueOf(want));
    }

    static boolean outThrows(WideWholes x, int i) {
        try {
            x.out(i);
            return false;
        } catch (IndexOutOfBoundsException e) {
            return true;
        }
    }
}
