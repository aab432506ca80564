import java.math.BigInteger;
import java.util.Arrays;

/** What the document says of all calls at once: an object's life, refusals, and slots that are asked and get. */
final class AllCallsBounds {
    private static final int LAST_CALL = 512;
    private static final String FULL_TAPE = "0".repeat(117) + "123";

    private AllCallsBounds() {
    }

    static void run() {
        lastCall();
        narrowAfterWide();
        firstThatFits();
        bad();
        zero();
        zeroOfAnyCall();
        state();
        none();
        full();
        slotsAskedAndGiven();
        ratiosAskedAndGiven();
    }

    /** Calls that need room, or that could use it up; each one is right in a new object too. */
    private static final House.Ask[] WEAR = {x -> x.set(20, 1000003), x -> x.act(2, 20, 20, 21),
        x -> x.over(1, 21, 20, 22, 23), x -> x.write(21, 2), x -> x.out(0), x -> x.feed(0x3130313031303130L, 8),
        x -> x.read(23, 36), x -> x.power(20, 19, 23), x -> x.root(23, 9, 22), x -> x.rest(23, 1000000, 20, 22),
        x -> x.inverse(22, 20, 21), x -> x.shift(20, 300, 19), x -> x.bits(2, 19, 20, 18), x -> x.divisor(18, 23, 17),
        x -> x.ratio(20, 19, 11), x -> x.actRatio(1, 11, 10, 9), x -> x.part(9, 3, 17), x -> x.digits(10, 2)};

    private static final House.Ask[] READY = {x -> x.set(0, 7), x -> x.set(1, 3), x -> x.ratio(0, 1, 0), x -> x.write(0, 2),
        x -> x.digits(0, 10), x -> x.read(2, 10), x -> x.feed('5', 1)};

    private static WideWholes ahead() {
        WideWholes x = new WideWholes();
        int calls = 0;
        while (calls < LAST_CALL - 1 - READY.length) {
            WEAR[calls % WEAR.length].of(x);
            calls++;
        }
        for (House.Ask ask : READY) {
            ask.of(x);
            calls++;
        }
        Due.due("calls ahead of the last", calls, LAST_CALL - 1);
        return x;
    }

    private static void dueLast(String call, long want, House.Ask ask) {
        Due.due("the last call: " + call, ask.of(ahead()), want);
    }

    private static void lastCall() {
        Document.life("An object is used for at most 512 calls after it has been made; what later calls answer is free.");
        dueLast("set", 1, x -> x.set(23, Long.MIN_VALUE));
        dueLast("feed", 2, x -> x.feed('6', 1));
        dueLast("read", 1, x -> x.read(2, 10));
        dueLast("write", 3, x -> x.write(0, 2));
        dueLast("out", '1', x -> x.out(2));
        Due.due("the last call: out(3) throws", Due.outThrows(ahead(), 3), true);
        dueLast("low", 7, x -> x.low(0));
        dueLast("limbs", 0, x -> x.limbs(0));
        dueLast("limb", 7, x -> x.limb(0, 0));
        dueLast("compare", 2, x -> x.compare(0, 1));
        dueLast("act", 1, x -> x.act(2, 0, 1, 2));
        dueLast("over", 1, x -> x.over(0, 0, 1, 2, 3));
        dueLast("divisor", 1, x -> x.divisor(0, 1, 2));
        dueLast("power", 1, x -> x.power(0, 136, 2));
        dueLast("power beyond L", -5, x -> x.power(0, 137, 2));
        dueLast("root", 0, x -> x.root(0, 2, 2));
        dueLast("rest", 1, x -> x.rest(0, 1000000, 1, 2));
        dueLast("inverse", 1, x -> x.inverse(0, 1, 2));
        dueLast("bits", 1, x -> x.bits(0, 0, 1, 2));
        dueLast("shift", 1, x -> x.shift(0, 381, 2));
        dueLast("bit", 1, x -> x.bit(0, 2));
        dueLast("length", 3, x -> x.length(0));
        dueLast("ones", 3, x -> x.ones(0));
        dueLast("ratio", 1, x -> x.ratio(1, 0, 1));
        dueLast("actRatio", 1, x -> x.actRatio(0, 0, 0, 1));
        dueLast("compareRatio", 2, x -> x.compareRatio(0, 10));
        dueLast("part", 1, x -> x.part(0, 3, 2));
        dueLast("digits", 2, x -> x.digits(0, 2));
        dueLast("digit", 3, x -> x.digit(0));
    }

    /** Wide wholes everywhere first: nothing of them may be left where a narrow one comes next. */
    private static WideWholes afterWide() {
        WideWholes x = Due.with("L", "-L", "2^128-1", "2^127-1");
        x.act(2, 0, 1, 4);
        x.act(0, 0, 1, 5);
        x.over(1, 1, 3, 6, 7);
        x.divisor(0, 2, 8);
        x.power(3, 3, 9);
        x.root(0, 2, 10);
        x.rest(1, 1000000, 2, 11);
        x.inverse(3, 2, 12);
        x.bits(2, 0, 1, 13);
        x.shift(1, -1, 14);
        x.ratio(3, 0, 0);
        x.ratio(1, 3, 1);
        x.actRatio(0, 0, 1, 2);
        x.actRatio(2, 0, 1, 3);
        x.part(1, 3, 15);
        x.digits(0, 16);
        x.write(1, 2);
        Due.readText(x, 16, "z".repeat(120), 36);
        return x;
    }

    private static void dueNarrow(String call, long want, House.Ask ask) {
        WideWholes x = afterWide();
        Due.put(x, 0, 7);
        Due.put(x, 1, 3);
        Due.due(call + " after wide ones", ask.of(x), 1);
        Due.dueSlot(call + " after wide ones", x, 4, want);
        Due.due(call + " after wide ones: limbs", x.limbs(4), 0);
    }

    private static void narrowAfterWide() {
        dueNarrow("set", -9, x -> x.set(4, -9));
        dueNarrow("read", 35, x -> Due.readText(x, 4, "z", 36));
        dueNarrow("act 0", 10, x -> x.act(0, 0, 1, 4));
        dueNarrow("act 1", 4, x -> x.act(1, 0, 1, 4));
        dueNarrow("act 2", 21, x -> x.act(2, 0, 1, 4));
        dueNarrow("over: QUOTIENT", 2, x -> x.over(0, 0, 1, 4, 5));
        dueNarrow("over: left over", 1, x -> x.over(0, 0, 1, 5, 4));
        dueNarrow("divisor", 1, x -> x.divisor(0, 1, 4));
        dueNarrow("power", 343, x -> x.power(0, 3, 4));
        dueNarrow("root", 2, x -> x.root(0, 2, 4) + 1);
        dueNarrow("rest", 2, x -> x.rest(1, 2, 0, 4));
        dueNarrow("inverse", 5, x -> x.inverse(1, 0, 4));
        dueNarrow("bits 0", 3, x -> x.bits(0, 0, 1, 4));
        dueNarrow("bits 2", 4, x -> x.bits(2, 0, 1, 4));
        dueNarrow("shift up", 14, x -> x.shift(0, 1, 4));
        dueNarrow("shift down", 3, x -> x.shift(0, -1, 4));
        dueNarrow("part of a new ratio", 2, x -> x.ratio(0, 1, 0) * x.part(0, 2, 4));
        for (int base = 2; base <= 36; base++) {
            digitsAfterWide(base);
        }
        WideWholes x = afterWide();
        Due.putRatio(x, 0, 1, 6);
        Due.putRatio(x, 1, 1, 3);
        Due.due("actRatio after wide ones", x.actRatio(0, 0, 1, 2), 1);
        Due.dueRatio("actRatio after wide ones", x, 2, 1, 2);
        Due.put(x, 0, -7);
        Due.due("write after wide ones", x.write(0, 10), 2);
        Due.due("write after wide ones", Due.outText(x, 2), "-7");
    }

    private static void digitsAfterWide(int base) {
        WideWholes x = afterWide();
        Model m = new Model();
        m.set(0, 1);
        for (int q = 2; q <= 12; q++) {
            String call = "digits of 1/" + q + " in base " + base + " after wide ones";
            m.set(1, q);
            m.ratio(0, 1, 0);
            Due.putRatio(x, 0, 1, q);
            Due.due(call, x.digits(0, base), m.digits(0, base));
            Due.due(call + ": HEAD", x.digit(-1), m.digit(-1));
            Due.due(call + ": ROUND", x.digit(-2), m.digit(-2));
        }
    }

    /** Each call would be refused twice or more: what the call names first is the answer. */
    private static void firstThatFits() {
        Document.terms("Refusals are answers below 0, the first that fits of these as the call names them");
        House.refuses(FULL_TAPE, "feed: BAD ahead of FULL", -1, x -> x.feed('1', 9));
        House.refuses("1".repeat(120), "read: BAD ahead of FULL", -1, x -> x.read(24, 36));
        House.refuses("1-", "read: BAD ahead of WRONG", -1, x -> x.read(0, 37));
        House.readRefuses("z".repeat(119) + "-", 36, -10 - 119);
        House.refuses("act: BAD ahead of FULL", -1, x -> x.act(2, House.L, House.L, 24));
        House.refuses("act: BAD ahead of FULL", -1, x -> x.act(3, House.L, House.L, 0));
        House.refuses("over: BAD ahead of ZERO", -1, x -> x.over(0, House.FIVE, House.NOUGHT, 3, 3));
        House.refuses("over: BAD ahead of ZERO", -1, x -> x.over(3, House.FIVE, House.NOUGHT, 3, 4));
        House.refuses("power: BAD ahead of FULL", -1, x -> x.power(House.L, 2001, 0));
        House.refuses("power: BAD ahead of FULL", -1, x -> x.power(House.L, 2, 24));
        House.refuses("root: BAD ahead of STATE", -1, x -> x.root(House.MINUS_SEVEN, 1, 0));
        House.refuses("root: BAD ahead of STATE", -1, x -> x.root(House.MINUS_SEVEN, 2, 24));
        House.refuses("rest: BAD ahead of ZERO", -1, x -> x.rest(House.FIVE, 1000001, House.NOUGHT, 0));
        House.refuses("rest: BAD ahead of STATE", -1, x -> x.rest(House.FIVE, -1, House.MINUS_SEVEN, 0));
        House.refuses("rest: BAD ahead of STATE", -1, x -> x.rest(House.FIVE, 1, House.TWO_TO_128, 24));
        House.refuses("inverse: BAD ahead of ZERO", -1, x -> x.inverse(House.FIVE, House.NOUGHT, 24));
        House.refuses("inverse: BAD ahead of STATE", -1, x -> x.inverse(24, House.MINUS_SEVEN, 0));
        House.refuses("inverse: BAD ahead of NONE", -1, x -> x.inverse(House.THREE, House.SIX, 24));
        House.refuses("inverse: ZERO ahead of NONE", -2, x -> x.inverse(House.FIVE, House.NOUGHT, 0));
        House.refuses("inverse: STATE ahead of NONE", -3, x -> x.inverse(House.MINUS_SEVEN, House.MINUS_SEVEN, 0));
        House.refuses("inverse: STATE ahead of NONE", -3, x -> x.inverse(House.TWO, House.TWO_TO_128, 0));
        House.refuses("bits: BAD ahead of FULL", -1, x -> x.bits(4, House.MINUS_L, House.MINUS_TWO, 0));
        House.refuses("bits: BAD ahead of FULL", -1, x -> x.bits(0, House.MINUS_L, House.MINUS_TWO, 24));
        House.refuses("shift: BAD ahead of FULL", -1, x -> x.shift(House.L, 1001, 0));
        House.refuses("shift: BAD ahead of FULL", -1, x -> x.shift(House.L, 1, 24));
        House.refuses("ratio: BAD ahead of ZERO", -1, x -> x.ratio(House.FIVE, House.NOUGHT, 12));
        House.refuses("actRatio: BAD ahead of ZERO", -1, x -> x.actRatio(3, House.HALF, House.NO_RATIO, 12));
        House.refuses("actRatio: BAD ahead of FULL", -1, x -> x.actRatio(0, House.L_ABOVE_1, House.L_ABOVE_1, 12));
        House.refuses("actRatio: BAD ahead of FULL", -1, x -> x.actRatio(4, House.L_ABOVE_1, House.L_ABOVE_1, 0));
        House.refuses("digits: BAD ahead of NONE", -1, x -> x.digits(House.MANY_DIGITS, 37));
    }

    /** Every number of every call is under its own promise; here one of each kind. */
    private static void bad() {
        Document.terms("they change nothing: BAD (a SLOT, RATIO, number is not as told)");
        House.refuses("set(24, 9)", -1, x -> x.set(24, 9));
        House.refuses("feed(49, 9)", -1, x -> x.feed('1', 9));
        House.refuses("read(24, 10)", -1, x -> x.read(24, 10));
        House.refuses("write(0, 37)", -1, x -> x.write(0, 37));
        House.refuses("act(0, 0, 1, 24)", -1, x -> x.act(0, 0, 1, 24));
        House.refuses("over(0, 0, 1, 2, 24)", -1, x -> x.over(0, 0, 1, 2, 24));
        House.refuses("over(0, 0, 1, 24, 2)", -1, x -> x.over(0, 0, 1, 24, 2));
        House.refuses("ratio(0, 1, 12)", -1, x -> x.ratio(0, 1, 12));
        House.refuses("actRatio(0, 0, 12, 1)", -1, x -> x.actRatio(0, 0, 12, 1));
        House.refuses("part(12, 0, 0)", -1, x -> x.part(12, 0, 0));
        House.refuses("digits(12, 10)", -1, x -> x.digits(12, 10));
        House.refuses("digit(3)", -1, x -> x.digit(3));
        House.outRefuses(9);
    }

    private static void zero() {
        Document.terms("ZERO (by 0)");
        House.refuses("over", -2, x -> x.over(1, House.FIVE, House.NOUGHT, House.SIX, House.THREE));
        House.refuses("rest", -2, x -> x.rest(House.FIVE, 2, House.NOUGHT, House.SIX));
        House.refuses("inverse", -2, x -> x.inverse(House.FIVE, House.NOUGHT, House.SIX));
        House.refuses("ratio", -2, x -> x.ratio(House.FIVE, House.NOUGHT, House.HALF));
        House.refuses("actRatio", -2, x -> x.actRatio(3, House.HALF, House.NO_RATIO, House.HALF));
    }

    /** Slot 4 gets a 0 of the call: there is one 0 alone, and by it nothing goes. */
    private static void dueNought(String call, House.Ask ask) {
        WideWholes x = Due.with("L", "-7", "1", "0", "5");
        Due.putRatio(x, 0, -1, 3);
        Due.due(call, ask.of(x), 1);
        Due.dueSlot(call, x, 4, 0);
        Due.due(call + ": compare", x.compare(4, 20), 1);
        Due.due(call + ": length", x.length(4), 0);
        Due.due(call + ": write", x.write(4, 10), 1);
        Due.due(call + ": root", x.root(4, 2, 5), 1);
        Due.due(call + ": over by it", x.over(0, 0, 4, 5, 6), -2);
        Due.due(call + ": rest by it", x.rest(0, 1, 4, 5), -2);
        Due.due(call + ": inverse by it", x.inverse(0, 4, 5), -2);
        Due.due(call + ": ratio by it", x.ratio(0, 4, 1), -2);
        Due.due(call + ": ratio of it", x.ratio(4, 0, 1), 1);
        Due.due(call + ": actRatio by it", x.actRatio(3, 0, 1, 2), -2);
    }

    private static void zeroOfAnyCall() {
        dueNought("set", x -> x.set(4, 0));
        dueNought("read of -0", x -> Due.readText(x, 4, "-0", 10));
        dueNought("read of 000", x -> Due.readText(x, 4, "000", 2));
        dueNought("-7 - -7", x -> x.act(1, 1, 1, 4));
        dueNought("-7 * 0", x -> x.act(2, 1, 3, 4));
        dueNought("the QUOTIENT of -7 by L", x -> x.over(0, 1, 0, 4, 5));
        dueNought("what is left over of -7 by 1", x -> x.over(1, 1, 2, 5, 4));
        dueNought("divisor of 0, 0", x -> x.divisor(3, 3, 4));
        dueNought("0 to the power of 3", x -> x.power(3, 3, 4));
        dueNought("root 9 of 0", x -> x.root(3, 9, 4));
        dueNought("rest of -7 by 1", x -> x.rest(1, 3, 2, 4));
        dueNought("inverse of -7 by 1", x -> x.inverse(1, 2, 4));
        dueNought("-7 and 0", x -> x.bits(0, 1, 3, 4));
        dueNought("-7 xor -7", x -> x.bits(2, 1, 1, 4));
        dueNought("-7 and not -7", x -> x.bits(3, 1, 1, 4));
        dueNought("1, one place down", x -> x.shift(2, -1, 4));
        dueNought("L, 1000 places down", x -> x.shift(0, -1000, 4));
        dueNought("0, 1000 places down", x -> x.shift(3, -1000, 4));
        dueNought("0, 1000 places up", x -> x.shift(3, 1000, 4));
        dueNought("the nearest of -1/3", x -> x.part(0, 3, 4));
        dueNought("above in 0 above 1", x -> x.part(11, 0, 4));
    }

    private static void state() {
        Document.terms("STATE (not such a WHOLE)");
        House.refuses("root", -3, x -> x.root(House.MINUS_SEVEN, 3, House.SIX));
        House.refuses("rest", -3, x -> x.rest(House.FIVE, 2, House.MINUS_SEVEN, House.SIX));
        House.refuses("inverse", -3, x -> x.inverse(House.FIVE, House.TWO_TO_128, House.SIX));
    }

    private static void none() {
        Document.terms("NONE (there is none)");
        House.refuses("inverse", -4, x -> x.inverse(House.THREE, House.SIX, House.FIVE));
        House.refuses("digits", -4, x -> x.digits(House.MANY_DIGITS, 2));
    }

    private static void full() {
        Document.terms("FULL.");
        House.refuses("act", -5, x -> x.act(0, House.L, House.ONE, House.L));
        House.refuses("power", -5, x -> x.power(House.L, 2, House.L));
        House.refuses("bits", -5, x -> x.bits(2, House.L, House.MINUS_ONE, House.L));
        House.refuses("shift", -5, x -> x.shift(House.TWO_TO_383, 1, House.TWO_TO_383));
        House.refuses("actRatio", -5, x -> x.actRatio(0, House.L_ABOVE_1, House.ONE_ABOVE_1, House.L_ABOVE_1));
        House.refuses(FULL_TAPE, "feed", -5, x -> x.feed('1', 1));
        House.readRefuses("z".repeat(120), 36, -5);
    }

    /** One call of both, with the slots (or ratios) that it asks and gives to. */
    private interface Both {
        void of(WideWholes x, Model m, int[] places);
    }

    private static final String[][] VALUES = {{"7", "-3", "5", "12"}, {"-L", "2^192+1", "-2^64", "9223372036854775807"},
        {"2^127-1", "-2^128+159", "L", "1"}, {"-9223372036854775808", "-1", "2^383", "2^96"}};

    /** Every way to lay the call's places on four slots; all four are looked at then. */
    private static void dueSlots(String call, int places, Both both) {
        for (String[] values : VALUES) {
            for (int laid = 0; laid < 1 << 2 * places; laid++) {
                WideWholes x = Due.with(values);
                Model m = new Model();
                int[] at = new int[places];
                for (int i = 0; i < places; i++) {
                    at[i] = laid >> 2 * i & 3;
                }
                for (int s = 0; s < 4; s++) {
                    m.slots[s] = Due.whole(values[s]);
                }
                both.of(x, m, at);
                for (int s = 0; s < 4; s++) {
                    Due.dueSlot(call + " at slots " + Arrays.toString(at), x, s, m.slots[s]);
                }
            }
        }
    }

    private static void slotsAskedAndGiven() {
        Document.terms("A SLOT, RATIO that gets something may be one of those that are asked.");
        for (int k = 0; k <= 3; k++) {
            int how = k;
            String name = " " + how;
            dueSlots("bits" + name, 3, (x, m, s) -> Due.due("bits" + name, x.bits(how, s[0], s[1], s[2]),
                m.bits(how, s[0], s[1], s[2])));
            dueSlots("act" + name, 3, (x, m, s) -> Due.due("act" + name, x.act(how, s[0], s[1], s[2]),
                m.act(how, s[0], s[1], s[2])));
            dueSlots("over" + name, 4, (x, m, s) -> Due.due("over" + name, x.over(how, s[0], s[1], s[2], s[3]),
                m.over(how, s[0], s[1], s[2], s[3])));
        }
        dueSlots("divisor", 3, (x, m, s) -> Due.due("divisor", x.divisor(s[0], s[1], s[2]), m.divisor(s[0], s[1], s[2])));
        dueSlots("power", 2, (x, m, s) -> Due.due("power", x.power(s[0], 3, s[1]), m.power(s[0], 3, s[1])));
        dueSlots("root", 2, (x, m, s) -> Due.due("root", x.root(s[0], 3, s[1]), m.root(s[0], 3, s[1])));
        dueSlots("rest", 3, (x, m, s) -> Due.due("rest", x.rest(s[0], 99, s[1], s[2]), m.rest(s[0], 99, s[1], s[2])));
        dueSlots("inverse", 3, (x, m, s) -> Due.due("inverse", x.inverse(s[0], s[1], s[2]), m.inverse(s[0], s[1], s[2])));
        for (int n : new int[] {0, 1, 37, -1, -64}) {
            dueSlots("shift " + n, 2, (x, m, s) -> Due.due("shift", x.shift(s[0], n, s[1]), m.shift(s[0], n, s[1])));
        }
    }

    private static void ratiosAskedAndGiven() {
        String[][] values = {{"2", "3"}, {"-5", "6"}, {"L", "2^192"}};
        for (int laid = 0; laid < 4 * 27; laid++) {
            int how = laid / 27;
            int p = laid % 3;
            int q = laid / 3 % 3;
            int r = laid / 9 % 3;
            WideWholes x = new WideWholes();
            Model m = new Model();
            for (int i = 0; i < 3; i++) {
                Due.putRatio(x, i, values[i][0], values[i][1]);
                BigInteger by = Due.whole(values[i][0]).gcd(Due.whole(values[i][1]));
                m.tops[i] = Due.whole(values[i][0]).divide(by);
                m.bottoms[i] = Due.whole(values[i][1]).divide(by);
            }
            String call = "actRatio(" + how + ", " + p + ", " + q + ", " + r + ")";
            Due.due(call, x.actRatio(how, p, q, r), m.actRatio(how, p, q, r));
            for (int i = 0; i < 3; i++) {
                Due.dueRatio(call, x, i, m.tops[i], m.bottoms[i]);
            }
        }
    }
}
