import java.math.BigInteger;
import java.util.ArrayList;
import java.util.Arrays;
import java.util.HashMap;
import java.util.List;
import java.util.Map;

/** The document once more, over BigInteger and in its most literal form: what the class is held against. */
final class Model {
    static final int BAD = -1, ZERO = -2, STATE = -3, NONE = -4, FULL = -5, WRONG = -10;
    static final String DIGITS = "0123456789abcdefghijklmnopqrstuvwxyz";

    final BigInteger[] slots = new BigInteger[24];
    final BigInteger[] tops = new BigInteger[12];
    final BigInteger[] bottoms = new BigInteger[12];
    private final StringBuilder tape = new StringBuilder();
    private String out = "";
    private int head = 0;
    private int round = 0;
    private List<Integer> digits = new ArrayList<>();

    Model() {
        Arrays.fill(slots, BigInteger.ZERO);
        Arrays.fill(tops, BigInteger.ZERO);
        Arrays.fill(bottoms, BigInteger.ONE);
    }

    private static boolean noSlot(int... all) {
        for (int s : all) {
            if (s < 0 || s > 23) {
                return true;
            }
        }
        return false;
    }

    private static boolean noRatio(int... all) {
        for (int r : all) {
            if (r < 0 || r > 11) {
                return true;
            }
        }
        return false;
    }

    private static boolean noBase(int base) {
        return base < 2 || base > 36;
    }

    private static boolean beyond(BigInteger v) {
        return v.abs().compareTo(Due.L) > 0;
    }

    private int keep(BigInteger v, int s) {
        if (beyond(v)) {
            return FULL;
        }
        slots[s] = v;
        return 1;
    }

    int set(int s, long v) {
        return noSlot(s) ? BAD : keep(BigInteger.valueOf(v), s);
    }

    int feed(long w, int n) {
        if (n < 1 || n > 8) {
            return BAD;
        }
        if (tape.length() + n > 120) {
            return FULL;
        }
        for (int k = n - 1; k >= 0; k--) {
            tape.append((char) (w >> 8 * k & 255));
        }
        return tape.length();
    }

    int read(int s, int base) {
        if (noSlot(s) || noBase(base)) {
            return BAD;
        }
        String text = tape.toString();
        tape.setLength(0);
        String known = DIGITS.substring(0, base);
        int from = text.startsWith("-") ? 1 : 0;
        for (int i = from; i < text.length(); i++) {
            if (known.indexOf(text.charAt(i)) < 0) {
                return WRONG - i;
            }
        }
        if (from == text.length()) {
            return WRONG - text.length();
        }
        return keep(new BigInteger(text, base), s);
    }

    int write(int s, int base) {
        if (noSlot(s) || noBase(base)) {
            return BAD;
        }
        out = slots[s].toString(base);
        return out.length();
    }

    int out(int i) {
        if (i < 0 || i >= out.length()) {
            throw new IndexOutOfBoundsException();
        }
        return out.charAt(i);
    }

    long low(int s) {
        return noSlot(s) ? 0 : slots[s].longValue();
    }

    int limbs(int s) {
        if (noSlot(s)) {
            return BAD;
        }
        return slots[s].bitLength() <= 63 ? 0 : (slots[s].abs().bitLength() + 31) / 32;
    }

    long limb(int s, int k) {
        if (noSlot(s) || k < 0 || k > 11) {
            return 0;
        }
        return slots[s].abs().shiftRight(32 * k).longValue() & 0xFFFFFFFFL;
    }

    int compare(int a, int b) {
        return noSlot(a, b) ? BAD : slots[a].compareTo(slots[b]) + 1;
    }

    int act(int how, int a, int b, int c) {
        if (noSlot(a, b, c) || how < 0 || how > 2) {
            return BAD;
        }
        BigInteger p = slots[a];
        BigInteger q = slots[b];
        return keep(how == 0 ? p.add(q) : how == 1 ? p.subtract(q) : p.multiply(q), c);
    }

    static BigInteger floor(BigInteger a, BigInteger b) {
        BigInteger[] both = a.divideAndRemainder(b);
        boolean lower = both[1].signum() != 0 && a.signum() != b.signum();
        return lower ? both[0].subtract(BigInteger.ONE) : both[0];
    }

    int over(int way, int a, int b, int c, int d) {
        if (noSlot(a, b, c, d) || way < 0 || way > 2 || c == d) {
            return BAD;
        }
        BigInteger p = slots[a];
        BigInteger q = slots[b];
        if (q.signum() == 0) {
            return ZERO;
        }
        BigInteger quotient;
        if (way == 0) {
            quotient = p.divide(q);
        } else if (way == 1) {
            quotient = floor(p, q);
        } else {
            quotient = p.subtract(p.mod(q.abs())).divide(q);
        }
        slots[c] = quotient;
        slots[d] = p.subtract(q.multiply(quotient));
        return 1;
    }

    int divisor(int a, int b, int c) {
        return noSlot(a, b, c) ? BAD : keep(slots[a].gcd(slots[b]), c);
    }

    int power(int a, int n, int c) {
        if (noSlot(a, c) || n < 0 || n > 2000) {
            return BAD;
        }
        BigInteger v = BigInteger.ONE;
        for (int i = 0; i < n; i++) {
            v = v.multiply(slots[a]);
            if (beyond(v)) {
                return FULL;
            }
        }
        return keep(v, c);
    }

    int root(int a, int n, int c) {
        if (noSlot(a, c) || n < 2 || n > 9) {
            return BAD;
        }
        BigInteger v = slots[a];
        if (v.signum() < 0) {
            return STATE;
        }
        BigInteger low = BigInteger.ZERO;
        BigInteger high = BigInteger.ONE.shiftLeft(v.bitLength() / n + 1);
        while (high.subtract(low).compareTo(BigInteger.ONE) > 0) {
            BigInteger middle = low.add(high).shiftRight(1);
            if (middle.pow(n).compareTo(v) <= 0) {
                low = middle;
            } else {
                high = middle;
            }
        }
        slots[c] = low;
        return low.pow(n).equals(v) ? 1 : 0;
    }

    private static int modulusFault(BigInteger m) {
        if (m.signum() == 0) {
            return ZERO;
        }
        return m.signum() < 0 || m.bitLength() > 128 ? STATE : 0;
    }

    int rest(int a, int e, int m, int c) {
        if (noSlot(a, m, c) || e < 0 || e > 1000000) {
            return BAD;
        }
        int fault = modulusFault(slots[m]);
        return fault != 0 ? fault : keep(slots[a].modPow(BigInteger.valueOf(e), slots[m]), c);
    }

    int inverse(int a, int m, int c) {
        if (noSlot(a, m, c)) {
            return BAD;
        }
        int fault = modulusFault(slots[m]);
        if (fault != 0) {
            return fault;
        }
        if (!slots[a].gcd(slots[m]).equals(BigInteger.ONE)) {
            return NONE;
        }
        return keep(slots[m].equals(BigInteger.ONE) ? BigInteger.ZERO : slots[a].modInverse(slots[m]), c);
    }

    int bits(int how, int a, int b, int c) {
        if (noSlot(a, b, c) || how < 0 || how > 3) {
            return BAD;
        }
        BigInteger p = slots[a];
        BigInteger q = slots[b];
        return keep(how == 0 ? p.and(q) : how == 1 ? p.or(q) : how == 2 ? p.xor(q) : p.andNot(q), c);
    }

    int shift(int a, int n, int c) {
        return noSlot(a, c) || n < -1000 || n > 1000 ? BAD : keep(slots[a].shiftLeft(n), c);
    }

    int bit(int a, int k) {
        return noSlot(a) || k < 0 ? BAD : slots[a].testBit(k) ? 1 : 0;
    }

    int length(int a) {
        return noSlot(a) ? BAD : slots[a].abs().bitLength();
    }

    int ones(int a) {
        return noSlot(a) ? BAD : slots[a].bitCount();
    }

    private int keepRatio(BigInteger p, BigInteger q, int r) {
        BigInteger by = q.signum() < 0 ? p.gcd(q).negate() : p.gcd(q);
        BigInteger top = p.divide(by);
        BigInteger bottom = q.divide(by);
        if (beyond(top) || beyond(bottom)) {
            return FULL;
        }
        tops[r] = top;
        bottoms[r] = bottom;
        return 1;
    }

    int ratio(int a, int b, int r) {
        if (noSlot(a, b) || noRatio(r)) {
            return BAD;
        }
        return slots[b].signum() == 0 ? ZERO : keepRatio(slots[a], slots[b], r);
    }

    int actRatio(int how, int p, int q, int r) {
        if (noRatio(p, q, r) || how < 0 || how > 3) {
            return BAD;
        }
        if (how == 3 && tops[q].signum() == 0) {
            return ZERO;
        }
        BigInteger a = tops[p];
        BigInteger b = bottoms[p];
        BigInteger c = tops[q];
        BigInteger d = bottoms[q];
        if (how == 0) {
            return keepRatio(a.multiply(d).add(c.multiply(b)), b.multiply(d), r);
        }
        if (how == 1) {
            return keepRatio(a.multiply(d).subtract(c.multiply(b)), b.multiply(d), r);
        }
        return how == 2 ? keepRatio(a.multiply(c), b.multiply(d), r) : keepRatio(a.multiply(d), b.multiply(c), r);
    }

    int compareRatio(int p, int q) {
        if (noRatio(p, q)) {
            return BAD;
        }
        return tops[p].multiply(bottoms[q]).compareTo(tops[q].multiply(bottoms[p])) + 1;
    }

    int part(int r, int which, int s) {
        if (noRatio(r) || which < 0 || which > 3 || noSlot(s)) {
            return BAD;
        }
        BigInteger p = tops[r];
        BigInteger q = bottoms[r];
        BigInteger floor = floor(p, q);
        if (which == 3) {
            // a half is as near to both: the even one is due, else the floor of the ratio and a half
            BigInteger nearest = floor(p.shiftLeft(1).add(q), q.shiftLeft(1));
            boolean half = q.equals(BigInteger.TWO);
            return keep(half && nearest.testBit(0) ? floor : nearest, s);
        }
        return keep(which == 0 ? p : which == 1 ? q : floor, s);
    }

    int digits(int r, int base) {
        if (noRatio(r) || noBase(base)) {
            return BAD;
        }
        BigInteger q = bottoms[r];
        BigInteger left = tops[r].abs().mod(q);
        Map<BigInteger, Integer> met = new HashMap<>();
        List<Integer> found = new ArrayList<>();
        while (left.signum() != 0 && !met.containsKey(left)) {
            if (found.size() == 200) {
                return NONE;
            }
            met.put(left, found.size());
            BigInteger[] both = left.multiply(BigInteger.valueOf(base)).divideAndRemainder(q);
            found.add(both[0].intValue());
            left = both[1];
        }
        head = left.signum() == 0 ? found.size() : met.get(left);
        round = found.size() - head;
        digits = found;
        return found.size();
    }

    int digit(int i) {
        if (i == -1) {
            return head;
        }
        if (i == -2) {
            return round;
        }
        return i < 0 || i >= digits.size() ? BAD : digits.get(i);
    }
}
