/**
 * Whole numbers of up to 384 bits in slots, ratios of them in lowest terms, and a tape and a text
 * by which they come and go. README.md tells how to use it.
 *
 * <p>All rows are made by the constructor: no call makes an object, but out its exception. A call
 * reckons into a row of its own first and gives a slot its new whole last, so a refusal changes
 * nothing, and a slot that gets something may be one of those that are asked.
 */
public final class WideWholes {
    public static final int BAD = -1, ZERO = -2, STATE = -3, NONE = -4, FULL = -5, WRONG = -10;

    private static final int SLOTS = 24;
    private static final int RATIOS = 12;
    private static final int TAPE_ROOM = 120;
    private static final int LEAST_BASE = 2;
    private static final int MOST_BASE = 36;
    private static final int MOST_POWER = 2000;
    private static final int LEAST_ROOT = 2;
    private static final int MOST_ROOT = 9;
    private static final int MOST_EXPONENT = 1000000;
    private static final int EXPONENT_BITS = 20;
    private static final int MODULUS_BITS = 128;
    private static final int MOST_SHIFT = 1000;
    private static final int MOST_DIGITS = 200;

    private static final int PART_BITS = 32;
    private static final long MASK = 4294967295L;
    private static final long LEAST_LONG = -9223372036854775808L;
    private static final int LIMIT_BITS = 384;
    private static final int LIMIT = LIMIT_BITS / PART_BITS;
    /** The longest on the way is a sum of two products: one part more than twice the limit. */
    private static final int ROOM = 2 * LIMIT + 2;
    /** In base 2 a whole has a byte for each bit, and its sign. */
    private static final int TEXT_ROOM = LIMIT_BITS + 1;
    /** Far above the 556 steps that Euclid's way needs at most where one of the two is within L. */
    private static final int EUCLID_STEPS = 2000;

    private final Whole[] slots;
    private final Ratio[] ratios;
    private final Tape tape;
    private final Text text;
    private final Division division;
    private final Powers powers;
    private final Fractions fractions;
    private final Expansion expansion;
    private final TwosForm firstTwos;
    private final TwosForm secondTwos;
    private final Whole result;
    private final Whole one;

    public WideWholes() {
        slots = new Whole[SLOTS];
        for (int s = 0; s < SLOTS; s++) {
            slots[s] = new Whole();
        }
        ratios = new Ratio[RATIOS];
        for (int r = 0; r < RATIOS; r++) {
            ratios[r] = new Ratio();
        }
        tape = new Tape();
        text = new Text();
        Division sharedDivision = new Division();
        Powers sharedPowers = new Powers(sharedDivision);
        division = sharedDivision;
        powers = sharedPowers;
        fractions = new Fractions(sharedDivision, sharedPowers);
        expansion = new Expansion(sharedDivision);
        firstTwos = new TwosForm();
        secondTwos = new TwosForm();
        result = new Whole();
        one = new Whole();
        one.become(1);
    }

    // ---- what comes and goes

    public int set(int s, long v) {
        if (!isSlot(s)) {
            return BAD;
        }
        slots[s].become(v);
        return 1;
    }

    public int feed(long w, int n) {
        if (n < 1 || n > 8) {
            return BAD;
        }
        return tape.takeBytes(w, n) ? tape.count : FULL;
    }

    public int read(int s, int base) {
        if (!isSlot(s) || !isBase(base)) {
            return BAD;
        }
        int place = tape.wrongPlace(base);
        if (place < 0) {
            tape.spellInto(result, base);
        }
        tape.clear();
        return place < 0 ? keep(result, s) : WRONG - place;
    }

    public int write(int s, int base) {
        if (!isSlot(s) || !isBase(base)) {
            return BAD;
        }
        text.spell(slots[s], base);
        return text.count;
    }

    public int out(int i) throws IndexOutOfBoundsException {
        if (i < 0 || i >= text.count) {
            throw new IndexOutOfBoundsException("OUT has no such byte");
        }
        return text.bytes[i];
    }

    public long low(int s) {
        return isSlot(s) ? slots[s].lowest64() : 0;
    }

    public int limbs(int s) {
        if (!isSlot(s)) {
            return BAD;
        }
        return slots[s].isShort() ? 0 : slots[s].size;
    }

    public long limb(int s, int k) {
        return isSlot(s) ? slots[s].partAt(k) : 0;
    }

    public int compare(int a, int b) {
        if (!isSlot(a) || !isSlot(b)) {
            return BAD;
        }
        return Whole.order(slots[a], slots[b]) + 1;
    }

    // ---- sums, products, quotients

    public int act(int how, int a, int b, int c) {
        if (how < 0 || how > 2 || !areSlots(a, b, c)) {
            return BAD;
        }
        if (how == 0) {
            Whole.sum(slots[a], slots[b], result);
        } else if (how == 1) {
            Whole.difference(slots[a], slots[b], result);
        } else {
            Whole.product(slots[a], slots[b], result);
        }
        return keep(result, c);
    }

    public int over(int way, int a, int b, int c, int d) {
        if (way < 0 || way > 2 || !areSlots(a, b, c) || !isSlot(d) || c == d) {
            return BAD;
        }
        if (slots[b].isZero()) {
            return ZERO;
        }
        division.divide(way, slots[a], slots[b]);
        if (!division.quotient.isWithin() || !division.left.isWithin()) {
            return FULL;
        }
        slots[c].copy(division.quotient);
        slots[d].copy(division.left);
        return 1;
    }

    public int divisor(int a, int b, int c) {
        if (!areSlots(a, b, c)) {
            return BAD;
        }
        powers.commonDivisor(slots[a], slots[b], result);
        return keep(result, c);
    }

    public int power(int a, int n, int c) {
        if (!isSlot(a) || !isSlot(c) || n < 0 || n > MOST_POWER) {
            return BAD;
        }
        return powers.raise(slots[a], n) ? keep(powers.result, c) : FULL;
    }

    public int root(int a, int n, int c) {
        if (!isSlot(a) || !isSlot(c) || n < LEAST_ROOT || n > MOST_ROOT) {
            return BAD;
        }
        if (slots[a].below) {
            return STATE;
        }
        boolean exact = powers.extract(slots[a], n, result);
        slots[c].copy(result);
        return exact ? 1 : 0;
    }

    public int rest(int a, int e, int m, int c) {
        if (!areSlots(a, m, c) || e < 0 || e > MOST_EXPONENT) {
            return BAD;
        }
        if (!isModulus(slots[m])) {
            return slots[m].isZero() ? ZERO : STATE;
        }
        powers.raiseBy(slots[a], e, slots[m]);
        return keep(powers.result, c);
    }

    public int inverse(int a, int m, int c) {
        if (!areSlots(a, m, c)) {
            return BAD;
        }
        if (!isModulus(slots[m])) {
            return slots[m].isZero() ? ZERO : STATE;
        }
        return powers.invert(slots[a], slots[m]) ? keep(powers.result, c) : NONE;
    }

    // ---- bits

    public int bits(int how, int a, int b, int c) {
        if (how < 0 || how > 3 || !areSlots(a, b, c)) {
            return BAD;
        }
        firstTwos.load(slots[a]);
        secondTwos.load(slots[b]);
        firstTwos.join(how, secondTwos);
        firstTwos.store(result);
        return keep(result, c);
    }

    public int shift(int a, int n, int c) {
        if (!isSlot(a) || !isSlot(c) || n < -MOST_SHIFT || n > MOST_SHIFT) {
            return BAD;
        }
        if (n < 0) {
            moveDown(slots[a], n);
        } else if (slots[a].isZero() || slots[a].sizeBits() + n <= LIMIT_BITS) {
            Whole.move(slots[a], n, result);
        } else {
            return FULL;
        }
        return keep(result, c);
    }

    public int bit(int a, int k) {
        if (!isSlot(a) || k < 0) {
            return BAD;
        }
        firstTwos.load(slots[a]);
        return firstTwos.bitAt(k);
    }

    public int length(int a) {
        return isSlot(a) ? slots[a].sizeBits() : BAD;
    }

    public int ones(int a) {
        if (!isSlot(a)) {
            return BAD;
        }
        firstTwos.load(slots[a]);
        return firstTwos.unlikeSign();
    }

    // ---- ratios

    public int ratio(int a, int b, int r) {
        if (!isSlot(a) || !isSlot(b) || !isRatio(r)) {
            return BAD;
        }
        if (slots[b].isZero()) {
            return ZERO;
        }
        fractions.reduce(slots[a], slots[b]);
        return keepRatio(r);
    }

    public int actRatio(int how, int p, int q, int r) {
        if (how < 0 || how > 3 || !isRatio(p) || !isRatio(q) || !isRatio(r)) {
            return BAD;
        }
        Ratio first = ratios[p];
        Ratio second = ratios[q];
        if (how == 3 && second.top.isZero()) {
            return ZERO;
        }
        if (how <= 1) {
            fractions.addUp(first, second, how == 1);
        } else if (how == 2) {
            fractions.multiply(first, second.top, second.bottom);
        } else {
            fractions.multiply(first, second.bottom, second.top);
        }
        return keepRatio(r);
    }

    public int compareRatio(int p, int q) {
        if (!isRatio(p) || !isRatio(q)) {
            return BAD;
        }
        return fractions.order(ratios[p], ratios[q]) + 1;
    }

    public int part(int r, int which, int s) {
        if (!isRatio(r) || which < 0 || which > 3 || !isSlot(s)) {
            return BAD;
        }
        Ratio asked = ratios[r];
        if (which == 0) {
            return keep(asked.top, s);
        }
        if (which == 1) {
            return keep(asked.bottom, s);
        }
        division.divide(1, asked.top, asked.bottom);
        result.copy(division.quotient);
        if (which == 3 && fractions.nearerAbove(asked.bottom)) {
            Whole.sum(result, one, result);
        }
        return keep(result, s);
    }

    public int digits(int r, int base) {
        if (!isRatio(r) || !isBase(base)) {
            return BAD;
        }
        return expansion.reckon(ratios[r], base) ? expansion.head + expansion.round : NONE;
    }

    public int digit(int i) {
        if (i == -1) {
            return expansion.head;
        }
        if (i == -2) {
            return expansion.round;
        }
        if (i < 0 || i >= expansion.head + expansion.round) {
            return BAD;
        }
        return expansion.kept[i];
    }

    // ---- what several calls share

    private static boolean isSlot(int s) {
        return s >= 0 && s < SLOTS;
    }

    private static boolean areSlots(int a, int b, int c) {
        return isSlot(a) && isSlot(b) && isSlot(c);
    }

    private static boolean isRatio(int r) {
        return r >= 0 && r < RATIOS;
    }

    private static boolean isBase(int base) {
        return base >= LEAST_BASE && base <= MOST_BASE;
    }

    private static boolean isModulus(Whole m) {
        return !m.isZero() && !m.below && m.sizeBits() <= MODULUS_BITS;
    }

    private int keep(Whole value, int s) {
        if (!value.isWithin()) {
            return FULL;
        }
        slots[s].copy(value);
        return 1;
    }

    private int keepRatio(int r) {
        if (!fractions.top.isWithin() || !fractions.bottom.isWithin()) {
            return FULL;
        }
        ratios[r].top.copy(fractions.top);
        ratios[r].bottom.copy(fractions.bottom);
        return 1;
    }

    /** The bits of -x are those of x - 1 turned over, so below 0 it is x - 1 that moves. */
    private void moveDown(Whole a, int n) {
        if (!a.below) {
            Whole.move(a, n, result);
            return;
        }
        Whole.sum(a, one, result);
        Whole.move(result, n, result);
        Whole.difference(result, one, result);
    }

    /** A sign, and a size in parts of 32 bits, the lowest first; what stands beyond the size is free. */
    private static final class Whole {
        final long[] parts;
        int size;
        boolean below;

        Whole() {
            parts = new long[ROOM];
            size = 0;
            below = false;
        }

        void become(long v) {
            // -v of the least long wraps to itself, which is the right size when read without a sign
            long magnitude = v < 0 ? -v : v;
            parts[0] = magnitude & MASK;
            parts[1] = magnitude >>> PART_BITS;
            trim(2);
            takeSign(v < 0);
        }

        void copy(Whole other) {
            for (int i = 0; i < other.size; i++) {
                parts[i] = other.parts[i];
            }
            size = other.size;
            below = other.below;
        }

        void trim(int count) {
            size = count;
            while (size > 0 && parts[size - 1] == 0) {
                size--;
            }
        }

        void takeSign(boolean sign) {
            below = sign && size > 0;
        }

        boolean isZero() {
            return size == 0;
        }

        boolean isOne() {
            return size == 1 && parts[0] == 1 && !below;
        }

        boolean isOdd() {
            return (partAt(0) & 1) == 1;
        }

        boolean isWithin() {
            return size <= LIMIT;
        }

        boolean isShort() {
            if (size > 2) {
                return false;
            }
            long magnitude = partAt(1) << PART_BITS | partAt(0);
            return magnitude >= 0 || below && magnitude == LEAST_LONG;
        }

        long partAt(int k) {
            return k >= 0 && k < size ? parts[k] : 0;
        }

        long lowest64() {
            long magnitude = partAt(1) << PART_BITS | partAt(0);
            return below ? -magnitude : magnitude;
        }

        int sizeBits() {
            return size == 0 ? 0 : (size - 1) * PART_BITS + bitsOf(partAt(size - 1));
        }

        /** Part i of the size moved n places up (down, if n is below 0). */
        long movedPart(int i, int n) {
            int from = i - (n >> 5);
            int up = n & 31;
            return (partAt(from) << up | partAt(from - 1) >>> PART_BITS - up) & MASK;
        }

        void raiseBit(int k) {
            int place = k >> 5;
            if (place < 0 || place >= ROOM) {
                return;
            }
            while (size <= place) {
                parts[size] = 0;
                size++;
            }
            parts[place] |= 1L << (k & 31);
        }

        /** The size times a small factor and a small addend. */
        void grow(long factor, long addend) {
            long carry = addend;
            for (int i = 0; i < size; i++) {
                long t = parts[i] * factor + carry;
                parts[i] = t & MASK;
                carry = t >>> PART_BITS;
            }
            if (carry != 0 && size < ROOM) {
                parts[size] = carry;
                size++;
            }
        }

        /** The size becomes its quotient by a divisor of one part; the answer is what is left over. */
        long shrink(long divisor) {
            long left = 0;
            for (int i = size - 1; i >= 0; i--) {
                long high = left << PART_BITS | parts[i];
                long quotient = quotientOfBits(high, divisor);
                left = high - quotient * divisor;
                parts[i] = quotient;
            }
            trim(size);
            takeSign(below);
            return left;
        }

        /** What is left over of the size by a divisor of one part. */
        long leftBy(long divisor) {
            long left = 0;
            for (int i = size - 1; i >= 0; i--) {
                long high = left << PART_BITS | parts[i];
                left = high - quotientOfBits(high, divisor) * divisor;
            }
            return left;
        }

        static int bitsOf(long part) {
            long filled = part | part >>> 1;
            filled |= filled >>> 2;
            filled |= filled >>> 4;
            filled |= filled >>> 8;
            filled |= filled >>> 16;
            return Long.bitCount(filled);
        }

        /** Of 64 bits without a sign: Java's own division knows only those with one, so half goes first. */
        static long quotientOfBits(long high, long divisor) {
            if (divisor <= 0) {
                return 0;
            }
            long quotient = (high >>> 1) / divisor << 1;
            return high - quotient * divisor >= divisor ? quotient + 1 : quotient;
        }

        static int orderSizes(Whole a, Whole b) {
            if (a.size != b.size) {
                return a.size < b.size ? -1 : 1;
            }
            for (int i = a.size - 1; i >= 0; i--) {
                if (a.parts[i] != b.parts[i]) {
                    return a.parts[i] < b.parts[i] ? -1 : 1;
                }
            }
            return 0;
        }

        static int order(Whole a, Whole b) {
            if (a.below != b.below) {
                return a.below ? -1 : 1;
            }
            return a.below ? orderSizes(b, a) : orderSizes(a, b);
        }

        /** c may be a or b, here and in difference. */
        static void sum(Whole a, Whole b, Whole c) {
            combine(a, b, b.below, c);
        }

        static void difference(Whole a, Whole b, Whole c) {
            combine(a, b, !b.below, c);
        }

        private static void combine(Whole a, Whole b, boolean secondBelow, Whole c) {
            boolean firstBelow = a.below;
            if (firstBelow == secondBelow) {
                addSizes(a, b, c);
                c.takeSign(firstBelow);
            } else if (orderSizes(a, b) >= 0) {
                subtractSizes(a, b, c);
                c.takeSign(firstBelow);
            } else {
                subtractSizes(b, a, c);
                c.takeSign(secondBelow);
            }
        }

        private static void addSizes(Whole a, Whole b, Whole c) {
            int longest = Math.min(Math.max(a.size, b.size), ROOM - 1);
            long carry = 0;
            for (int i = 0; i < longest; i++) {
                long t = a.partAt(i) + b.partAt(i) + carry;
                c.parts[i] = t & MASK;
                carry = t >>> PART_BITS;
            }
            c.parts[longest] = carry;
            c.trim(longest + 1);
        }

        /** a's size is not below b's. */
        private static void subtractSizes(Whole a, Whole b, Whole c) {
            int longest = a.size;
            long borrow = 0;
            for (int i = 0; i < longest; i++) {
                long t = a.partAt(i) - b.partAt(i) - borrow;
                c.parts[i] = t & MASK;
                borrow = t < 0 ? 1 : 0;
            }
            c.trim(longest);
        }

        /** c is neither a nor b. */
        static void product(Whole a, Whole b, Whole c) {
            int longest = Math.min(a.size + b.size, ROOM);
            for (int i = 0; i < longest; i++) {
                c.parts[i] = 0;
            }
            for (int i = 0; i < a.size; i++) {
                long factor = a.parts[i];
                long carry = 0;
                for (int j = 0; j < b.size && i + j < longest; j++) {
                    long t = factor * b.parts[j] + c.parts[i + j] + carry;
                    c.parts[i + j] = t & MASK;
                    carry = t >>> PART_BITS;
                }
                if (i + b.size < longest) {
                    c.parts[i + b.size] = carry;
                }
            }
            c.trim(longest);
            c.takeSign(a.below != b.below);
        }

        /** c is a with its size moved n places up (down, if n is below 0); down, c may be a. */
        static void move(Whole a, int n, Whole c) {
            int longest = Math.max(0, Math.min(a.size + (n >> 5) + 1, ROOM));
            for (int i = 0; i < longest; i++) {
                c.parts[i] = a.movedPart(i, n);
            }
            boolean sign = a.below;
            c.trim(longest);
            c.takeSign(sign);
        }
    }

    /** What stands above, and what stands below: above 0, without a common divisor. */
    private static final class Ratio {
        final Whole top;
        final Whole bottom;

        Ratio() {
            top = new Whole();
            bottom = new Whole();
            bottom.become(1);
        }
    }

    /** The latest quotient and what is left over; neither may be given as dividend or divisor. */
    private static final class Division {
        final Whole quotient;
        final Whole left;
        private final Whole one;
        private final long[] dividend;
        private final long[] divisor;

        Division() {
            quotient = new Whole();
            left = new Whole();
            one = new Whole();
            one.become(1);
            dividend = new long[ROOM + 1];
            divisor = new long[ROOM + 1];
        }

        /** Cut off first; the other ways are at most one step from there. */
        void divide(int way, Whole a, Whole b) {
            divideSizes(a, b);
            quotient.takeSign(a.below != b.below);
            left.takeSign(a.below);
            boolean unlike = !left.isZero() && left.below != b.below;
            boolean lower = way == 1 && unlike || way == 2 && left.below && !b.below;
            boolean higher = way == 2 && left.below && b.below;
            if (lower) {
                Whole.difference(quotient, one, quotient);
                Whole.sum(left, b, left);
            } else if (higher) {
                Whole.sum(quotient, one, quotient);
                Whole.difference(left, b, left);
            }
        }

        /** By the sizes alone; every caller has refused a divisor of 0. */
        void divideSizes(Whole a, Whole b) {
            if (b.isZero() || Whole.orderSizes(a, b) < 0) {
                quotient.become(0);
                left.copy(a);
            } else if (b.size == 1) {
                quotient.copy(a);
                left.become(quotient.shrink(b.partAt(0)));
            } else {
                divideLong(a, b);
            }
            quotient.takeSign(false);
            left.takeSign(false);
        }

        /** Knuth's way: with the divisor's highest bit set, a guess from two parts is at most 2 too high. */
        private void divideLong(Whole a, Whole b) {
            int count = b.size;
            int up = PART_BITS - Whole.bitsOf(b.partAt(count - 1));
            for (int i = 0; i <= a.size; i++) {
                dividend[i] = a.movedPart(i, up);
            }
            for (int i = 0; i < count; i++) {
                divisor[i] = b.movedPart(i, up);
            }
            int highest = a.size - count;
            for (int j = highest; j >= 0; j--) {
                quotient.parts[j] = takeAway(j, count, guess(j, count));
            }
            quotient.trim(highest + 1);
            for (int i = 0; i < count; i++) {
                left.parts[i] = (dividend[i] >>> up | dividend[i + 1] << PART_BITS - up) & MASK;
            }
            left.trim(count);
        }

        private long guess(int j, int count) {
            long highest = divisor[count - 1];
            long next = divisor[count - 2];
            long high = dividend[j + count] << PART_BITS | dividend[j + count - 1];
            long q = Whole.quotientOfBits(high, highest);
            long r = high - q * highest;
            for (int step = 0; step < 2 && r <= MASK; step++) {
                // adding the least long to both compares them as if without a sign
                long reached = q * next + LEAST_LONG;
                long there = (r << PART_BITS | dividend[j + count - 2]) + LEAST_LONG;
                if (q <= MASK && reached <= there) {
                    break;
                }
                q--;
                r += highest;
            }
            return q;
        }

        /** Takes q times the divisor off the dividend from part j on; answers the q that it could take. */
        private long takeAway(int j, int count, long q) {
            long carry = 0;
            long borrow = 0;
            for (int i = 0; i < count; i++) {
                long p = q * divisor[i] + carry;
                carry = p >>> PART_BITS;
                long t = dividend[i + j] - (p & MASK) - borrow;
                dividend[i + j] = t & MASK;
                borrow = t < 0 ? 1 : 0;
            }
            long t = dividend[j + count] - carry - borrow;
            dividend[j + count] = t & MASK;
            if (t >= 0) {
                return q;
            }
            giveBack(j, count);
            return q - 1;
        }

        private void giveBack(int j, int count) {
            long carry = 0;
            for (int i = 0; i < count; i++) {
                long t = dividend[i + j] + divisor[i] + carry;
                dividend[i + j] = t & MASK;
                carry = t >>> PART_BITS;
            }
            dividend[j + count] = dividend[j + count] + carry & MASK;
        }
    }

    /** Powers, roots, rests of powers, and what Euclid's way finds. */
    private static final class Powers {
        final Whole result;
        private final Division division;
        private final Whole product;
        private final Whole base;
        private final Whole first;
        private final Whole second;
        private final Whole firstShare;
        private final Whole secondShare;

        Powers(Division shared) {
            division = shared;
            result = new Whole();
            product = new Whole();
            base = new Whole();
            first = new Whole();
            second = new Whole();
            firstShare = new Whole();
            secondShare = new Whole();
        }

        /**
         * The result is a to the power of n, or the answer is false: it is beyond. From the highest
         * bit of n on, every power met is one of at most n, so none goes beyond unless the last does.
         */
        boolean raise(Whole a, int n) {
            result.become(1);
            for (int k = Whole.bitsOf(n) - 1; k >= 0; k--) {
                if (!multiplyBy(result)) {
                    return false;
                }
                if ((n >> k & 1) == 1 && !multiplyBy(a)) {
                    return false;
                }
            }
            return true;
        }

        private boolean multiplyBy(Whole factor) {
            Whole.product(result, factor, product);
            result.copy(product);
            return result.isWithin();
        }

        /** found becomes the root, bit by bit from the highest that it can have; true: it is exact. */
        boolean extract(Whole a, int n, Whole found) {
            found.become(0);
            if (n < 1) {
                return false;
            }
            boolean exact = a.isZero();
            for (int k = a.sizeBits() / n; k >= 0; k--) {
                base.copy(found);
                base.raiseBit(k);
                if (raise(base, n) && Whole.orderSizes(result, a) <= 0) {
                    found.copy(base);
                    exact = Whole.orderSizes(result, a) == 0;
                }
            }
            return exact;
        }

        /** The result is what is left over of a to the power of e by m, which is above 0. */
        void raiseBy(Whole a, int e, Whole m) {
            division.divide(2, a, m);
            base.copy(division.left);
            result.become(1);
            // all bits of e, its highest ones that are 0 too: so 1 itself is left over by m at least once
            for (int k = EXPONENT_BITS - 1; k >= 0; k--) {
                multiplyLeft(result, m);
                if ((e >> k & 1) == 1) {
                    multiplyLeft(base, m);
                }
            }
        }

        private void multiplyLeft(Whole factor, Whole m) {
            Whole.product(result, factor, product);
            division.divideSizes(product, m);
            result.copy(division.left);
        }

        /** Never below 0; 0 of 0 and 0. */
        void commonDivisor(Whole a, Whole b, Whole found) {
            first.copy(a);
            first.takeSign(false);
            second.copy(b);
            second.takeSign(false);
            for (int step = 0; step < EUCLID_STEPS && !second.isZero(); step++) {
                division.divideSizes(first, second);
                first.copy(second);
                second.copy(division.left);
            }
            found.copy(first);
        }

        /** At every step each share times a leaves by m what its own one of first and second does. */
        boolean invert(Whole a, Whole m) {
            division.divide(2, a, m);
            first.copy(m);
            second.copy(division.left);
            firstShare.become(0);
            secondShare.become(1);
            for (int step = 0; step < EUCLID_STEPS && !second.isZero(); step++) {
                division.divideSizes(first, second);
                Whole.product(division.quotient, secondShare, product);
                Whole.difference(firstShare, product, product);
                firstShare.copy(secondShare);
                secondShare.copy(product);
                first.copy(second);
                second.copy(division.left);
            }
            if (!first.isOne()) {
                return false;
            }
            division.divide(2, firstShare, m);
            result.copy(division.left);
            return true;
        }
    }

    /**
     * Reckons ratios into top and bottom. Common divisors are taken out ahead of the products: they
     * are found among wholes within L, and top and bottom are in lowest terms without another look.
     */
    private static final class Fractions {
        final Whole top;
        final Whole bottom;
        private final Division division;
        private final Powers powers;
        private final Whole common;
        private final Whole firstCut;
        private final Whole secondCut;
        private final Whole product;

        Fractions(Division sharedDivision, Powers sharedPowers) {
            division = sharedDivision;
            powers = sharedPowers;
            top = new Whole();
            bottom = new Whole();
            common = new Whole();
            firstCut = new Whole();
            secondCut = new Whole();
            product = new Whole();
        }

        /** b is not 0. */
        void reduce(Whole a, Whole b) {
            powers.commonDivisor(a, b, common);
            cut(a, common, top);
            cut(b, common, bottom);
            raiseBottom();
        }

        void addUp(Ratio p, Ratio q, boolean minus) {
            powers.commonDivisor(p.bottom, q.bottom, common);
            cut(p.bottom, common, firstCut);
            cut(q.bottom, common, secondCut);
            Whole.product(p.top, secondCut, top);
            Whole.product(q.top, firstCut, product);
            if (minus) {
                Whole.difference(top, product, top);
            } else {
                Whole.sum(top, product, top);
            }
            // only what the two bottoms share can still divide the sum
            powers.commonDivisor(top, common, common);
            cut(top, common, top);
            cut(q.bottom, common, secondCut);
            Whole.product(firstCut, secondCut, bottom);
        }

        /** p times (a above b), these without a common divisor; b may be below 0. */
        void multiply(Ratio p, Whole a, Whole b) {
            powers.commonDivisor(p.top, b, common);
            cut(p.top, common, firstCut);
            cut(b, common, secondCut);
            powers.commonDivisor(p.bottom, a, common);
            cut(a, common, product);
            Whole.product(firstCut, product, top);
            cut(p.bottom, common, product);
            Whole.product(secondCut, product, bottom);
            raiseBottom();
        }

        int order(Ratio p, Ratio q) {
            Whole.product(p.top, q.bottom, firstCut);
            Whole.product(q.top, p.bottom, secondCut);
            return Whole.order(firstCut, secondCut);
        }

        /** After a division by b, way 1: the next whole is nearer than the quotient, or as near and even. */
        boolean nearerAbove(Whole b) {
            Whole.sum(division.left, division.left, product);
            int order = Whole.order(product, b);
            return order > 0 || order == 0 && division.quotient.isOdd();
        }

        /** found, which may be a, is a by a divisor of it that is above 0. */
        private void cut(Whole a, Whole by, Whole found) {
            boolean sign = a.below;
            division.divideSizes(a, by);
            found.copy(division.quotient);
            found.takeSign(sign);
        }

        private void raiseBottom() {
            if (bottom.below) {
                bottom.takeSign(false);
                top.takeSign(!top.below);
            }
        }
    }

    /** The digits of a ratio: kept are those of the latest that was not refused. */
    private static final class Expansion {
        int head;
        int round;
        int[] kept;
        private int[] fresh;
        private final Division division;
        private final Whole left;
        private final Whole start;
        private final Whole uncut;

        Expansion(Division shared) {
            division = shared;
            head = 0;
            round = 0;
            kept = new int[MOST_DIGITS];
            fresh = new int[MOST_DIGITS];
            left = new Whole();
            start = new Whole();
            uncut = new Whole();
        }

        boolean reckon(Ratio r, int base) {
            int ahead = countAhead(r.bottom, base);
            if (ahead > MOST_DIGITS) {
                return false;
            }
            division.divideSizes(r.top, r.bottom);
            left.copy(division.left);
            for (int i = 0; i < ahead; i++) {
                fresh[i] = nextDigit(r.bottom, base);
            }
            start.copy(left);
            int count = ahead;
            boolean open = !left.isZero();
            while (open && count < MOST_DIGITS) {
                fresh[count] = nextDigit(r.bottom, base);
                count++;
                open = Whole.orderSizes(left, start) != 0;
            }
            if (open) {
                return false;
            }
            keepFresh(ahead, count - ahead);
            return true;
        }

        /**
         * A digit stands ahead of the round for every time that the base can still take something
         * out of what stands below; what then has nothing in common with it brings all lefts round.
         */
        private int countAhead(Whole bottom, int base) {
            uncut.copy(bottom);
            int ahead = 0;
            long common = smallDivisor(base, uncut.leftBy(base));
            while (common > 1 && ahead <= MOST_DIGITS) {
                uncut.shrink(common);
                ahead++;
                common = smallDivisor(base, uncut.leftBy(base));
            }
            return ahead;
        }

        private static long smallDivisor(long a, long b) {
            long first = a;
            long second = b;
            for (int step = 0; step < MOST_BASE && second > 0; step++) {
                long rest = first % second;
                first = second;
                second = rest;
            }
            return first;
        }

        private int nextDigit(Whole bottom, int base) {
            left.grow(base, 0);
            division.divideSizes(left, bottom);
            left.copy(division.left);
            return (int) division.quotient.partAt(0);
        }

        private void keepFresh(int ahead, int around) {
            int[] old = kept;
            kept = fresh;
            fresh = old;
            head = ahead;
            round = around;
        }
    }

    /** A whole in two's form: all its parts, and one more for the sign that goes on for ever. */
    private static final class TwosForm {
        private final long[] row;

        TwosForm() {
            row = new long[LIMIT + 1];
        }

        void load(Whole a) {
            for (int i = 0; i <= LIMIT; i++) {
                row[i] = a.partAt(i);
            }
            if (a.below) {
                negate();
            }
        }

        void join(int how, TwosForm other) {
            for (int i = 0; i <= LIMIT; i++) {
                long mine = row[i];
                long others = other.row[i];
                if (how == 0) {
                    row[i] = mine & others;
                } else if (how == 1) {
                    row[i] = mine | others;
                } else if (how == 2) {
                    row[i] = mine ^ others;
                } else {
                    row[i] = mine & ~others;
                }
            }
        }

        void store(Whole c) {
            boolean below = isBelow();
            if (below) {
                negate();
            }
            for (int i = 0; i <= LIMIT; i++) {
                c.parts[i] = row[i];
            }
            c.trim(LIMIT + 1);
            c.takeSign(below);
        }

        /** k is not below 0. */
        int bitAt(int k) {
            int place = Math.max(0, Math.min(k >> 5, LIMIT));
            return (int) (row[place] >>> (k & 31) & 1);
        }

        int unlikeSign() {
            long sign = isBelow() ? MASK : 0;
            int count = 0;
            for (int i = 0; i <= LIMIT; i++) {
                count += Long.bitCount(row[i] ^ sign);
            }
            return count;
        }

        private boolean isBelow() {
            return row[LIMIT] != 0;
        }

        private void negate() {
            long carry = 1;
            for (int i = 0; i <= LIMIT; i++) {
                long t = (row[i] ^ MASK) + carry;
                row[i] = t & MASK;
                carry = t >>> PART_BITS;
            }
        }
    }

    /** The bytes that wait to be read as a whole. */
    private static final class Tape {
        int count;
        private final int[] bytes;

        Tape() {
            count = 0;
            bytes = new int[TAPE_ROOM];
        }

        void clear() {
            count = 0;
        }

        boolean takeBytes(long w, int n) {
            if (count + n > TAPE_ROOM) {
                return false;
            }
            for (int k = n - 1; k >= 0; k--) {
                bytes[count] = (int) (w >>> 8 * k & 255);
                count++;
            }
            return true;
        }

        /** The place of the first byte that can not stand there; -1: all can. */
        int wrongPlace(int base) {
            int from = signs();
            if (from == count) {
                return count;
            }
            for (int i = from; i < count; i++) {
                if (!isDigit(valueAt(i), base)) {
                    return i;
                }
            }
            return -1;
        }

        /** Only of a tape on which all is right: then 120 bytes need fewer parts than there is room for. */
        void spellInto(Whole found, int base) {
            found.become(0);
            for (int i = signs(); i < count; i++) {
                found.grow(base, valueAt(i));
            }
            found.takeSign(signs() == 1);
        }

        private int signs() {
            return count > 0 && bytes[0] == '-' ? 1 : 0;
        }

        private int valueAt(int i) {
            int letter = bytes[i];
            if (letter >= '0' && letter <= '9') {
                return letter - '0';
            }
            return letter >= 'a' && letter <= 'z' ? letter - 'a' + 10 : -1;
        }

        private static boolean isDigit(int value, int base) {
            return value >= 0 && value < base;
        }
    }

    /** OUT: the latest whole that was written. */
    private static final class Text {
        int count;
        final int[] bytes;
        private final Whole left;

        Text() {
            count = 0;
            bytes = new int[TEXT_ROOM];
            left = new Whole();
        }

        void spell(Whole a, int base) {
            left.copy(a);
            count = 0;
            do {
                add(letter((int) left.shrink(base)));
            } while (!left.isZero() && count < TEXT_ROOM);
            if (a.below) {
                add('-');
            }
            turnRound();
        }

        private void add(int letter) {
            if (count < TEXT_ROOM) {
                bytes[count] = letter;
                count++;
            }
        }

        private void turnRound() {
            for (int i = 0, j = count - 1; i < j; i++, j--) {
                int letter = bytes[i];
                bytes[i] = bytes[j];
                bytes[j] = letter;
            }
        }

        private static int letter(int value) {
            return value < 10 ? '0' + value : 'a' + value - 10;
        }
    }
}
