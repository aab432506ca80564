/** Promises 18 to 22, sentence by sentence: bits, at their bounds. */
final class BitsBounds {
    private static final String LEAST = "-9223372036854775808";

    private BitsBounds() {
    }

    static void run() {
        bits();
        bitsRefusals();
        shift();
        shiftRefusals();
        bit();
        length();
        ones();
    }

    private static void dueBits(int how, String a, String b, String want) {
        House.gives("bits " + how + " of " + a + ", " + b, 1, want, x -> x.bits(how, 0, 1, 23), a, b);
    }

    private static void bits() {
        Document.promise(18, "c is a and b (how = 0), a or b (1), a xor b (2), a and not b (3), BIT by BIT: 1.");
        String[][] rows = {{"12", "10", "8", "14", "6", "4"}, {"-12", "10", "0", "-2", "-2", "-12"},
            {"12", "-10", "4", "-2", "-6", "8"}, {"-12", "-10", "-12", "-10", "2", "0"}, {"0", "-1", "0", "-1", "-1", "0"},
            {"-1", "0", "0", "-1", "-1", "-1"}, {"-1", "-1", "-1", "-1", "0", "0"}, {"L", "-1", "L", "-1", "", "0"},
            {"L", "-L", "1", "-1", "-2", "L-1"}, {"-L", "-L", "-L", "-L", "0", "0"}, {"-L", "L", "1", "-1", "-2", ""},
            {LEAST, "9223372036854775807", "0", "-1", "-1", LEAST}, {"-2^64", "2^64-1", "0", "-1", "-1", "-2^64"},
            {"2^64", "-1", "2^64", "-1", "-2^64-1", "0"}, {"-L", "0", "0", "-L", "-L", "-L"},
            {"2^383", "-2^383", "2^383", "-2^383", "", "0"}};
        for (String[] row : rows) {
            for (int how = 0; how <= 3; how++) {
                // what is left empty would be beyond, and stands under FULL
                if (!row[2 + how].isEmpty()) {
                    dueBits(how, row[0], row[1], row[2 + how]);
                }
            }
        }
    }

    private static void refusesFull(int how, String a, String b) {
        House.isFull("bits " + how + " of " + a + ", " + b, (x, c) -> x.bits(how, 0, 1, c), a, b);
    }

    private static void bitsRefusals() {
        Document.promise(18, "BAD;");
        House.slot("bits: a", (x, a) -> x.bits(0, a, 6, 7));
        House.slot("bits: b", (x, b) -> x.bits(0, 6, b, 7));
        House.slot("bits: c", (x, c) -> x.bits(0, 6, 7, c));
        House.bounds("bits: how", 0, 3, (x, how) -> x.bits(how, 6, 7, 0));
        // only -L - 1 is ever met beyond, and never by or
        Document.promise(18, "FULL.");
        refusesFull(0, "-L", "-2");
        refusesFull(0, "-2", "-L");
        refusesFull(0, "-L", "-L+1");
        refusesFull(2, "L", "-1");
        refusesFull(2, "-1", "L");
        refusesFull(2, "-L", "1");
        refusesFull(2, "2^383", "-2^383");
        refusesFull(3, "-L", "1");
        refusesFull(3, "-L", "L");
        refusesFull(3, "-1", "L");
        dueBits(0, "-L", "-1", "-L");
        dueBits(0, "-L", "-L+2", "-L");
        dueBits(1, "-L", "-L", "-L");
        dueBits(1, "-L+1", "1", "-L+2");
        dueBits(1, "L-1", "1", "L");
        dueBits(2, "L-1", "-1", "-L");
        dueBits(3, "-L", "2", "-L");
        dueBits(3, "-1", "L-1", "-L");
        House.refuses("-L and -2", -5, x -> x.bits(0, House.MINUS_L, House.MINUS_TWO, House.FIVE));
        House.refuses("L xor -1", -5, x -> x.bits(2, House.L, House.MINUS_ONE, House.FIVE));
        House.refuses("-1 and not L", -5, x -> x.bits(3, House.MINUS_ONE, House.L, House.FIVE));
    }

    private static void dueShift(String a, int n, String want) {
        House.gives("shift of " + a + " by " + n, 1, want, x -> x.shift(0, n, 23), a);
    }

    private static void shift() {
        Document.promise(19, "c is a with its BITS n places up (n below 0: down, those below 0 go): 1.");
        for (String a : new String[] {"0", "1", "-1", "L", "-L", LEAST}) {
            dueShift(a, 0, a);
        }
        dueShift("5", 1, "10");
        dueShift("-5", 1, "-10");
        dueShift("3", -1, "1");
        dueShift("-3", -1, "-2");
        dueShift("-2", -1, "-1");
        dueShift("-1", -1, "-1");
        dueShift("1", -1, "0");
        dueShift("1", 31, "2^31");
        dueShift("1", 32, "2^32");
        dueShift("-1", 63, LEAST);
        dueShift("1", 64, "2^64");
        dueShift("2^64", -64, "1");
        dueShift("-2^64", -64, "-1");
        dueShift("-2^64-1", -64, "-2");
        dueShift("-2^64+1", -64, "-1");
        dueShift("2^64-1", -32, "4294967295");
        dueShift("L", -383, "1");
        dueShift("L", -384, "0");
        dueShift("-L", -383, "-2");
        dueShift("-L", -384, "-1");
        dueShift("-2^383", -383, "-1");
        dueShift("-2^383", -382, "-2");
        dueShift("L", -1000, "0");
        dueShift("-L", -1000, "-1");
        dueShift("-1", -1000, "-1");
        dueShift("0", 1000, "0");
        dueShift("0", -1000, "0");
    }

    private static void shiftRefusals() {
        Document.promise(19, "BAD: n is not -1000 .. 1000;");
        House.slot("shift: a", (x, a) -> x.shift(a, 1, 6));
        House.slot("shift: c", (x, c) -> x.shift(6, 1, c));
        House.bounds("shift: n", -1000, 1000, (x, n) -> x.shift(House.NOUGHT, n, 0));
        House.isBad("shift: n", (x, n) -> x.shift(House.FIVE, n, 0), -1001, 1001);
        Document.promise(19, "FULL.");
        dueShift("1", 383, "2^383");
        dueShift("-1", 383, "-2^383");
        dueShift("2^383-1", 1, "L-1");
        dueShift("-2^383+1", 1, "-L+1");
        dueShift("2^200", 183, "2^383");
        String[][] beyond = {{"1", "384"}, {"-1", "384"}, {"1", "385"}, {"2^383", "1"}, {"-2^383", "1"}, {"L", "1"},
            {"-L", "1"}, {"2^200", "184"}, {"1", "1000"}, {"-1", "1000"}, {"L", "1000"}, {"1", "416"}, {"1", "832"}};
        for (String[] row : beyond) {
            int n = Integer.parseInt(row[1]);
            House.isFull("shift of " + row[0] + " by " + n, (x, c) -> x.shift(0, n, c), row[0], "5");
        }
        House.refuses("2^383, one place up", -5, x -> x.shift(House.TWO_TO_383, 1, House.FIVE));
        House.refuses("-1, 1000 places up", -5, x -> x.shift(House.MINUS_ONE, 1000, House.FIVE));
    }

    private static void bit() {
        Document.promise(20, "BIT k of a: 1, 0.");
        WideWholes x = Due.with("5", "-6", "2^383", "-L");
        int[][] rows = {{0, 0, 1}, {0, 1, 0}, {0, 2, 1}, {0, 3, 0}, {1, 0, 0}, {1, 1, 1}, {1, 2, 0}, {1, 3, 1}, {2, 382, 0},
            {2, 383, 1}, {2, 384, 0}, {3, 0, 1}, {3, 383, 0}, {3, 384, 1}, {0, Integer.MAX_VALUE, 0},
            {1, Integer.MAX_VALUE, 1}};
        for (int[] row : rows) {
            Due.due("bit " + row[1] + " of slot " + row[0], x.bit(row[0], row[1]), row[2]);
        }
        for (int k = 0; k <= 384; k++) {
            WideWholes y = Due.with("0", "-1");
            Due.due("bit " + k + " of 0", y.bit(0, k), 0);
            Due.due("bit " + k + " of -1", y.bit(1, k), 1);
        }
        Document.promise(20, "BAD: k is below 0.");
        House.slot("bit: a", (y, a) -> y.bit(a, 0));
        House.takes("bit: k", (y, k) -> y.bit(House.MINUS_ONE, k), 0, 1, Integer.MAX_VALUE);
        House.isBad("bit: k", (y, k) -> y.bit(House.MINUS_ONE, k), -1, -2, Integer.MIN_VALUE);
        House.isBad("bit: k", (y, k) -> y.bit(House.NOUGHT, k), -1, Integer.MIN_VALUE);
    }

    private static void length() {
        Document.promise(21, "How many BITS the size of a needs (0 of 0).");
        Due.due("length of 0", new WideWholes().length(0), 0);
        Due.due("length of 1", Due.with("1").length(0), 1);
        Due.due("length of -1", Due.with("-1").length(0), 1);
        for (int k = 1; k <= 383; k++) {
            WideWholes x = Due.with("2^" + k, "-2^" + k, "2^" + k + "-1", "-2^" + k + "+1");
            Due.due("length of 2^" + k, x.length(0), k + 1);
            Due.due("length of -2^" + k, x.length(1), k + 1);
            Due.due("length of 2^" + k + " - 1", x.length(2), k);
            Due.due("length of -2^" + k + " + 1", x.length(3), k);
        }
        Due.due("length of L", Due.with("L").length(0), 384);
        Due.due("length of -L", Due.with("-L").length(0), 384);
        Document.promise(21, "BAD");
        House.slot("length: a", (x, a) -> x.length(a));
    }

    private static void ones() {
        Document.promise(22, "How many BITS of a are unlike its sign's (0 of 0 and of -1).");
        String[] values = {"0", "-1", "1", "-2", "7", "-8", "4294967295", "-4294967296", "9223372036854775807", LEAST,
            "2^64-1", "-2^64", "2^383", "-2^383", "L", "-L", "L-1", "-L+1"};
        int[] wants = {0, 0, 1, 1, 3, 3, 32, 32, 63, 63, 64, 64, 1, 383, 384, 383, 383, 383};
        for (int i = 0; i < values.length; i++) {
            Due.due("ones of " + values[i], Due.with(values[i]).ones(0), wants[i]);
        }
        Document.promise(22, "BAD");
        House.slot("ones: a", (x, a) -> x.ones(a));
    }
}
