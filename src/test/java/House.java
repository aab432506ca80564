import java.math.BigInteger;

/** An object with something everywhere, and a look at all of it: what a refusal must leave as it was. */
final class House {
    static final int FIVE = 0, MINUS_SEVEN = 1, NOUGHT = 2, L = 3, MINUS_L = 4, TWO_TO_128 = 5, SIX = 6, THREE = 7,
        TWO_TO_383 = 8, ONE = 9, MINUS_ONE = 10, TWO = 11, MINUS_TWO = 12, TWO_TO_192 = 13, PRIME = 14, TWELVE = 15,
        WRITTEN = 22, ELEVEN = 23;
    static final int NO_RATIO = 1, L_ABOVE_1 = 2, ONE_ABOVE_L = 3, ONE_ABOVE_1 = 4, HALF = 5,
        MANY_DIGITS = 6, FIVE_TWELFTHS = 7, THREE_ELEVENTHS = 11;

    /** One call of an object. */
    interface Ask {
        long of(WideWholes x);
    }

    /** One call of an object, with one number of it left open. */
    interface AskAt {
        long of(WideWholes x, int n);
    }

    private static final String TAPE = "10";
    private static final String LOOK = look(full(TAPE));

    private House() {
    }

    private static WideWholes full(String tape) {
        WideWholes x = new WideWholes();
        long[] values = {5, -7, 0, 0, 0, 0, 6, 3, 0, 1, -1, 2, -2, 0, 101, 12, 1000003, -1000033, 1L << 32, Long.MIN_VALUE,
            Long.MAX_VALUE, -4294967295L, -22000066, 11};
        for (int s = 0; s < values.length; s++) {
            x.set(s, values[s]);
        }
        x.shift(ONE, 128, TWO_TO_128);
        x.shift(ONE, 192, TWO_TO_192);
        x.shift(ONE, 383, TWO_TO_383);
        x.act(1, TWO_TO_383, ONE, L);
        x.act(0, TWO_TO_383, L, L);
        x.act(1, NOUGHT, L, MINUS_L);
        int[][] ratios = {{FIVE, MINUS_SEVEN}, {NOUGHT, ONE}, {L, ONE}, {ONE, L}, {ONE, ONE}, {ONE, TWO}, {ONE, TWO_TO_383},
            {FIVE, TWELVE}, {TWO, THREE}, {MINUS_SEVEN, TWELVE}, {ELEVEN, PRIME}, {THREE, ELEVEN}};
        for (int r = 0; r < ratios.length; r++) {
            x.ratio(ratios[r][0], ratios[r][1], r);
        }
        x.write(WRITTEN, 10);
        x.digits(FIVE_TWELFTHS, 10);
        Due.feedText(x, tape);
        return x;
    }

    /** All but the tape. Slots come ahead of ratios, since it is a slot that carries these out. */
    private static String look(WideWholes x) {
        StringBuilder text = new StringBuilder("slots");
        for (int s = 0; s < 24; s++) {
            text.append(' ').append(Due.get(x, s));
        }
        text.append(", OUT ");
        for (int i = 0; i <= 12 && !Due.outThrows(x, i); i++) {
            text.append((char) x.out(i));
        }
        text.append(", digits");
        for (int i = -3; i <= 4; i++) {
            text.append(' ').append(x.digit(i));
        }
        text.append(", ratios");
        for (int r = 0; r < 12; r++) {
            text.append(' ').append(ratioPart(x, r, 0)).append('/').append(ratioPart(x, r, 1));
        }
        return text.toString();
    }

    private static BigInteger ratioPart(WideWholes x, int r, int which) {
        x.part(r, which, ELEVEN);
        return Due.get(x, ELEVEN);
    }

    /** How many bytes it has with one more, and what they are together. */
    private static String lookAtTape(WideWholes x) {
        return x.feed('3', 1) + " bytes, " + x.read(ELEVEN, 36) + ": " + x.low(ELEVEN);
    }

    static void refuses(String call, long want, Ask ask) {
        refuses(TAPE, call, want, ask);
    }

    static void refuses(String tape, String call, long want, Ask ask) {
        WideWholes x = full(tape);
        Due.due(call, ask.of(x), want);
        dueUnchanged(call, x, lookAtTape(full(tape)));
    }

    static void outRefuses(int i) {
        WideWholes x = full(TAPE);
        Due.due("out(" + i + ") throws", Due.outThrows(x, i), true);
        dueUnchanged("out(" + i + ")", x, lookAtTape(full(TAPE)));
    }

    private static void dueUnchanged(String call, WideWholes x, String tape) {
        Due.due(call + ": all that is not on the tape", look(x), LOOK);
        Due.due(call + ": the tape", lookAtTape(x), tape);
    }

    /** A read() that is refused, but is not BAD: only the tape is another one then, an empty one. */
    static void readRefuses(String tape, int base, long want) {
        for (int s : new int[] {FIVE, L, ELEVEN}) {
            String call = "read(" + s + ", " + base + ") of '" + tape + "'";
            WideWholes x = full(tape);
            Due.due(call, x.read(s, base), want);
            dueUnchanged(call, x, lookAtTape(full("")));
        }
    }

    /** A call that gives slot 23 something: of slots 0 and on, which hold these, it changes none. */
    static void gives(String call, long answer, String want, Ask ask, String... slots) {
        WideWholes x = Due.with(slots);
        Due.put(x, 23, 77);
        Due.due(call, ask.of(x), answer);
        Due.dueSlot(call, x, 23, want);
        dueSlots(call, x, slots);
    }

    /** A call that gives slot c something, whatever c: beyond L it gives nothing, and slots 0 and on hold these. */
    static void isFull(String call, AskAt ask, String... slots) {
        WideWholes x = Due.with(slots);
        Due.put(x, 23, 77);
        for (int c : new int[] {0, 1, 23}) {
            Due.due(call + " for " + c, ask.of(x, c), Model.FULL);
        }
        Due.dueSlot(call, x, 23, 77);
        dueSlots(call, x, slots);
    }

    private static void dueSlots(String call, WideWholes x, String... slots) {
        for (int s = 0; s < slots.length; s++) {
            Due.dueSlot(call, x, s, slots[s]);
        }
    }

    static void takes(String call, AskAt ask, int... all) {
        for (int n : all) {
            Due.due(call + " " + n + " is taken", ask.of(full(TAPE), n) >= 0, true);
        }
    }

    static void isBad(String call, AskAt ask, int... all) {
        for (int n : all) {
            refuses(call + " " + n, Model.BAD, x -> ask.of(x, n));
        }
    }

    /** The last numbers within the bounds are taken, the first ones beyond are BAD and change nothing. */
    static void bounds(String call, int low, int high, AskAt ask) {
        takes(call, ask, low, high);
        isBad(call, ask, low - 1, high + 1, Integer.MIN_VALUE, Integer.MAX_VALUE);
    }

    static void slot(String call, AskAt ask) {
        bounds(call, 0, 23, ask);
    }

    static void ratio(String call, AskAt ask) {
        bounds(call, 0, 11, ask);
    }

    static void base(String call, AskAt ask) {
        bounds(call, 2, 36, ask);
    }
}
