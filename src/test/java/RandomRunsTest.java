import java.util.Random;

/** Runs of 512 calls, from fixed seeds, each answer held against the model's: all promises, mixed. */
public final class RandomRunsTest {
    private static final int RUNS = 3000;
    private static final int CALLS = 512;
    private static final String[] PARTS = {"00000000", "00000001", "7fffffff", "80000000", "fffffffe", "ffffffff"};
    private static final int[] ODD_INTS = {-1, -2, -3, 24, 12, 36, 37, 1000, 1001, -1000, -1001, 2000, 2001, 1000000,
        1000001, Integer.MIN_VALUE, Integer.MAX_VALUE};

    private final Random random;
    private final WideWholes x = new WideWholes();
    private final Model m = new Model();
    private final String name;
    private int calls = 0;

    private RandomRunsTest(long seed) {
        random = new Random(seed);
        name = "run " + seed + ", call ";
    }

    public static void main(String[] args) {
        for (int seed = 1; seed <= RUNS; seed++) {
            RandomRunsTest run = new RandomRunsTest(seed);
            while (run.calls < CALLS) {
                run.step();
            }
        }
        Due.end();
    }

    /** What is answered behind the last call of a run is free. */
    private void due(String call, long got, long want) {
        calls++;
        if (calls <= CALLS) {
            Due.due(name + calls + ": " + call, got, want);
        }
    }

    /** Mostly few slots, so that calls meet one another's wholes; now and then one that is not there. */
    private int slot() {
        int kind = random.nextInt(60);
        return kind == 0 ? odd() : kind < 4 ? random.nextInt(24) : random.nextInt(7);
    }

    private int ratio() {
        int kind = random.nextInt(60);
        return kind == 0 ? odd() : kind < 4 ? random.nextInt(12) : random.nextInt(4);
    }

    private int within(int low, int high) {
        return random.nextInt(60) == 0 ? odd() : low + random.nextInt(high - low + 1);
    }

    private int odd() {
        return ODD_INTS[random.nextInt(ODD_INTS.length)];
    }

    private int base() {
        int kind = random.nextInt(4);
        return kind == 0 ? 2 : kind == 1 ? 10 : within(2, 36);
    }

    private long value() {
        switch (random.nextInt(6)) {
            case 0: return random.nextLong();
            case 1: return random.nextInt(41) - 20;
            case 2: return 1L << random.nextInt(64);
            case 3: return (1L << random.nextInt(64)) - 1;
            case 4: return -(1L << random.nextInt(64));
            default: return random.nextInt();
        }
    }

    private void step() {
        switch (random.nextInt(10)) {
            case 0: bring(); break;
            case 1: case 2: look(); break;
            case 3: case 4: reckon(); break;
            case 5: more(); break;
            case 6: bits(); break;
            default: ratios(); break;
        }
    }

    private void bring() {
        int kind = random.nextInt(4);
        int s = slot();
        if (kind == 0) {
            long v = value();
            due("set", x.set(s, v), m.set(s, v));
        } else if (kind == 1) {
            parts(s);
        } else if (kind == 2) {
            number(s);
        } else {
            long w = value();
            int n = within(1, 8);
            due("feed", x.feed(w, n), m.feed(w, n));
        }
    }

    /** Parts of a few kinds, which bring the rare turns of a long division. */
    private void parts(int s) {
        due("read", x.read(s, 10), m.read(s, 10));
        feedText(random.nextBoolean() ? "-" : "0");
        int count = 1 + random.nextInt(12);
        for (int i = 0; i < count; i++) {
            boolean any = random.nextInt(3) == 0;
            feedText(any ? String.format("%08x", random.nextInt()) : PARTS[random.nextInt(PARTS.length)]);
        }
        due("read of parts", x.read(s, 16), m.read(s, 16));
    }

    private void number(int s) {
        int base = base();
        int count = random.nextInt(random.nextBoolean() ? 20 : 125);
        StringBuilder text = new StringBuilder(random.nextInt(3) == 0 ? "-" : "");
        for (int i = 0; i < count; i++) {
            int known = Math.min(36, Math.max(2, base));
            text.append(random.nextInt(500) == 0 ? '-' : Model.DIGITS.charAt(random.nextInt(known)));
        }
        for (int i = 0; i < text.length(); i += 8) {
            feedText(text.substring(i, Math.min(text.length(), i + 8)));
        }
        due("read of a number", x.read(s, base), m.read(s, base));
    }

    private void feedText(String text) {
        long w = random.nextInt();
        for (int i = 0; i < text.length(); i++) {
            w = w << 8 | text.charAt(i);
        }
        due("feed", x.feed(w, text.length()), m.feed(w, text.length()));
    }

    private void look() {
        int s = slot();
        int t = slot();
        int k = within(-1, 13);
        int base = base();
        switch (random.nextInt(8)) {
            case 0: due("low", x.low(s), m.low(s)); break;
            case 1: due("limbs", x.limbs(s), m.limbs(s)); break;
            case 2: due("limb", x.limb(s, k), m.limb(s, k)); break;
            case 3: due("compare", x.compare(s, t), m.compare(s, t)); break;
            case 4: due("length", x.length(s), m.length(s)); break;
            case 5: due("ones", x.ones(s), m.ones(s)); break;
            case 6: due("bit", x.bit(s, 30 * k), m.bit(s, 30 * k)); break;
            default:
                int count = m.write(s, base);
                due("write", x.write(s, base), count);
                for (int i = 0; i < 3; i++) {
                    out(random.nextInt(10) == 0 ? odd() : random.nextInt(Math.max(1, count + 1)));
                }
        }
    }

    private void out(int i) {
        long want;
        long got;
        try {
            want = m.out(i);
        } catch (IndexOutOfBoundsException e) {
            want = -1;
        }
        try {
            got = x.out(i);
        } catch (IndexOutOfBoundsException e) {
            got = -1;
        }
        due("out(" + i + ")", got, want);
    }

    private void dueSlot(String call, int s) {
        int k = random.nextInt(12);
        due(call + ": low", x.low(s), m.low(s));
        due(call + ": limb", x.limb(s, k), m.limb(s, k));
        due(call + ": bit", x.bit(s, 384), m.bit(s, 384));
        due(call + ": length", x.length(s), m.length(s));
    }

    private void reckon() {
        int a = slot();
        int b = slot();
        int c = slot();
        int d = slot();
        int how = within(0, 2);
        switch (random.nextInt(4)) {
            case 0: case 1: due("act", x.act(how, a, b, c), m.act(how, a, b, c)); break;
            case 2: due("over", x.over(how, a, b, c, d), m.over(how, a, b, c, d)); break;
            default: due("divisor", x.divisor(a, b, c), m.divisor(a, b, c)); break;
        }
        dueSlot("reckon", c);
        dueSlot("reckon", d);
    }

    private void more() {
        int a = slot();
        int mod = slot();
        int c = slot();
        int n = random.nextInt(8) == 0 ? within(0, 2000) : within(0, 10);
        int e = random.nextBoolean() ? within(0, 10) : within(0, 1000000);
        switch (random.nextInt(4)) {
            case 0: due("power", x.power(a, n, c), m.power(a, n, c)); break;
            case 1: due("root", x.root(a, n, c), m.root(a, n, c)); break;
            case 2: due("rest", x.rest(a, e, mod, c), m.rest(a, e, mod, c)); break;
            default: due("inverse", x.inverse(a, mod, c), m.inverse(a, mod, c)); break;
        }
        dueSlot("more", c);
    }

    private void bits() {
        int a = slot();
        int b = slot();
        int c = slot();
        int how = within(0, 3);
        int n = random.nextBoolean() ? within(-70, 70) : within(-400, 400);
        if (random.nextBoolean()) {
            due("bits", x.bits(how, a, b, c), m.bits(how, a, b, c));
        } else {
            due("shift", x.shift(a, n, c), m.shift(a, n, c));
        }
        dueSlot("bits", c);
    }

    private void ratios() {
        int p = ratio();
        int q = ratio();
        int r = ratio();
        int s = slot();
        int t = slot();
        int how = within(0, 3);
        int base = base();
        switch (random.nextInt(6)) {
            case 0: due("ratio", x.ratio(s, t, r), m.ratio(s, t, r)); break;
            case 1: case 2: due("actRatio", x.actRatio(how, p, q, r), m.actRatio(how, p, q, r)); break;
            case 3: due("compareRatio", x.compareRatio(p, q), m.compareRatio(p, q)); break;
            case 4:
                due("part", x.part(r, how, s), m.part(r, how, s));
                dueSlot("part", s);
                break;
            default:
                due("digits", x.digits(r, base), m.digits(r, base));
                for (int i : new int[] {-1, -2, random.nextInt(8), random.nextInt(210), odd()}) {
                    due("digit(" + i + ")", x.digit(i), m.digit(i));
                }
        }
    }
}
