import java.math.BigInteger;

/** Terms: what an object holds, and its bounds. Refusals and what else goes for all calls: AllCallsBounds. */
final class TermsBounds {
    private static final BigInteger ONE = BigInteger.ONE;

    private TermsBounds() {
    }

    static void run() {
        slots();
        ratios();
        lowestTerms();
        noughtAboveOne();
        atFirst();
        wholes();
        beyond();
        shortOnes();
        limbs();
        limbsNoMoreThanNeeded();
        waysOfQuotients();
        leftOver();
        bits();
        tape();
        digitsOfBases();
        noOtherBytes();
        digitsOfARatio();
        head();
        round();
    }

    private static void slots() {
        Document.terms("SLOTS 0 .. 23 have a WHOLE each");
        WideWholes x = new WideWholes();
        for (int s = 0; s <= 23; s++) {
            Due.due("set(" + s + ")", x.set(s, 100 + s), 1);
        }
        Due.due("set(-1)", x.set(-1, 9), -1);
        Due.due("set(24)", x.set(24, 9), -1);
        for (int s = 0; s <= 23; s++) {
            Due.dueSlot("each its own", x, s, 100 + s);
        }
        x = Due.with("2^100", "0");
        Due.due("slot 2 is like slot 0", x.act(0, 0, 1, 2), 1);
        Due.due("slot 0 doubles", x.act(0, 0, 0, 0), 1);
        Due.dueSlot("slot 2 does not", x, 2, "2^100");
    }

    private static void ratios() {
        Document.terms("RATIOS 0 .. 11 one WHOLE above another one");
        WideWholes x = new WideWholes();
        for (int r = 0; r <= 11; r++) {
            Due.putRatio(x, r, r + 1, r + 2);
        }
        Due.due("ratio -1", x.ratio(22, 23, -1), -1);
        Due.due("ratio 12", x.ratio(22, 23, 12), -1);
        for (int r = 0; r <= 11; r++) {
            Due.dueRatio("each its own", x, r, r + 1, r + 2);
        }
        Document.terms("that is above 0");
        x = new WideWholes();
        Due.putRatio(x, 0, -3, -7);
        Due.dueRatio("-3 above -7", x, 0, 3, 7);
        Due.putRatio(x, 1, 3, -7);
        Due.dueRatio("3 above -7", x, 1, -3, 7);
        Due.due("3/7 by -3/7", x.actRatio(3, 0, 1, 2), 1);
        Due.dueRatio("3/7 by -3/7", x, 2, -1, 1);
        Due.putRatio(x, 3, "-L", "-L+1");
        Due.dueRatio("-L above -L+1", x, 3, "L", "L-1");
        Due.putRatio(x, 3, "1", "-L");
        Due.dueRatio("1 above -L", x, 3, "-1", "L");
    }

    private static void lowestTerms() {
        Document.terms("without a common divisor above 1");
        long[][] rows = {{0, 1, 6, 1, 3, 1, 2}, {1, 1, 2, 1, 6, 1, 3}, {2, 3, 4, 2, 3, 1, 2}, {3, 2, 3, 4, 3, 1, 2},
            {0, 1, 2, 1, 2, 1, 1}, {3, 5, 7, 5, 7, 1, 1}, {2, 6, 35, 35, 6, 1, 1}, {1, 7, 6, 1, 6, 1, 1}};
        for (long[] row : rows) {
            String call = "actRatio " + row[0] + " of " + row[1] + "/" + row[2] + ", " + row[3] + "/" + row[4];
            WideWholes x = new WideWholes();
            Due.putRatio(x, 0, row[1], row[2]);
            Due.putRatio(x, 1, row[3], row[4]);
            Due.due(call, x.actRatio((int) row[0], 0, 1, 2), 1);
            Due.dueRatio(call, x, 2, row[5], row[6]);
        }
        WideWholes x = new WideWholes();
        Due.putRatio(x, 0, 6, 4);
        Due.dueRatio("6 above 4", x, 0, 3, 2);
        Due.putRatio(x, 0, "L", "L");
        Due.dueRatio("L above L", x, 0, 1, 1);
        Due.putRatio(x, 0, "3", "L");
        Due.dueRatio("3 above L", x, 0, ONE, Due.L.divide(BigInteger.valueOf(3)));
        Due.putRatio(x, 0, "2^383", "-2^382");
        Due.dueRatio("2^383 above -2^382", x, 0, -2, 1);
    }

    private static void noughtAboveOne() {
        Document.terms("(0 is 0 above 1)");
        for (String q : new String[] {"1", "-1", "5", "-5", "L", "-L"}) {
            WideWholes x = new WideWholes();
            Due.putRatio(x, 0, "0", q);
            Due.dueRatio("0 above " + q, x, 0, 0, 1);
            Due.putRatio(x, 0, "7", q);
            for (int[] row : new int[][] {{1, 0, 0}, {2, 0, 5}, {2, 5, 0}, {3, 5, 0}}) {
                String call = "actRatio " + row[0] + " of ratios " + row[1] + ", " + row[2] + ", 0 being 7 above " + q;
                Due.putRatio(x, 1, 1, 3);
                Due.due(call, x.actRatio(row[0], row[1], row[2], 1), 1);
                Due.dueRatio(call, x, 1, 0, 1);
            }
        }
    }

    private static void atFirst() {
        Document.terms("All are 0 (0 above 1) at first.");
        WideWholes x = new WideWholes();
        for (int s = 0; s <= 23; s++) {
            Due.dueSlot("at first", x, s, 0);
        }
        for (int r = 0; r <= 11; r++) {
            Due.dueRatio("at first", x, r, 0, 1);
        }
    }

    private static void wholes() {
        Document.terms("WHOLES are from -L to L, L being 2 to the power of 384, less 1");
        for (String sign : new String[] {"", "-"}) {
            WideWholes x = Due.with(sign + "L");
            for (int k = 0; k <= 12; k++) {
                Due.due("limb " + k + " of " + sign + "L", x.limb(0, k), k < 12 ? 4294967295L : 0);
            }
            Due.due("length of " + sign + "L", x.length(0), 384);
            int count = 96 + sign.length();
            Due.due("write " + sign + "L", x.write(0, 16), count);
            Due.due("write " + sign + "L", Due.outText(x, count), sign + "f".repeat(96));
        }
        WideWholes x = Due.with("L-1", "-L+1", "1", "2^192-1", "2^192+1", "-L+2", "2");
        Due.due("(L - 1) + 1", x.act(0, 0, 2, 10), 1);
        Due.dueSlot("(L - 1) + 1", x, 10, "L");
        Due.due("(-L + 1) - 1", x.act(1, 1, 2, 10), 1);
        Due.dueSlot("(-L + 1) - 1", x, 10, "-L");
        Due.due("L as a product", x.act(2, 3, 4, 10), 1);
        Due.dueSlot("L as a product", x, 10, "L");
        Due.due("L to the power of 1", x.power(10, 1, 11), 1);
        Due.dueSlot("L to the power of 1", x, 11, "L");
        Due.due("(L - 1) or 1", x.bits(1, 0, 2, 10), 1);
        Due.dueSlot("(L - 1) or 1", x, 10, "L");
        Due.due("(-L + 2) and not 2", x.bits(3, 5, 6, 10), 1);
        Due.dueSlot("(-L + 2) and not 2", x, 10, "-L");
        Due.due("-L no place up", x.shift(10, 0, 11), 1);
        Due.dueSlot("-L no place up", x, 11, "-L");
    }

    private static void beyond() {
        Document.terms("what would be beyond is FULL");
        House.readRefuses(Due.L.add(ONE).toString(16), 16, Model.FULL);
        House.readRefuses(Due.L.add(ONE).negate().toString(16), 16, Model.FULL);
        House.refuses("L + 1", Model.FULL, x -> x.act(0, House.L, House.ONE, House.FIVE));
        House.refuses("-L - 1", Model.FULL, x -> x.act(1, House.MINUS_L, House.ONE, House.FIVE));
        House.refuses("2^192 * 2^192", Model.FULL, x -> x.act(2, House.TWO_TO_192, House.TWO_TO_192, House.FIVE));
        House.refuses("2^383 * -2", Model.FULL, x -> x.act(2, House.TWO_TO_383, House.MINUS_TWO, House.FIVE));
        House.refuses("2 to the power of 384", Model.FULL, x -> x.power(House.TWO, 384, House.FIVE));
        House.refuses("-2 to the power of 385", Model.FULL, x -> x.power(House.MINUS_TWO, 385, House.FIVE));
        House.refuses("-1, 384 places up", Model.FULL, x -> x.shift(House.MINUS_ONE, 384, House.FIVE));
        House.refuses("-L and -2", Model.FULL, x -> x.bits(0, House.MINUS_L, House.MINUS_TWO, House.FIVE));
        House.refuses("L/1 + 1/1", Model.FULL, x -> x.actRatio(0, House.L_ABOVE_1, House.ONE_ABOVE_1, House.HALF));
        House.refuses("1/L * 1/2", Model.FULL, x -> x.actRatio(2, House.ONE_ABOVE_L, House.HALF, House.HALF));
    }

    private static void shortOnes() {
        Document.terms("A WHOLE is SHORT, if it is one of 64 bits (-9223372036854775808 .. 9223372036854775807)");
        for (long edge : new long[] {Long.MIN_VALUE, Long.MAX_VALUE}) {
            String step = edge < 0 ? "-1" : "1";
            WideWholes x = Due.with(BigInteger.valueOf(edge), new BigInteger(step), BigInteger.valueOf(edge));
            Due.due(edge + " as it was read", x.limbs(0), 0);
            Due.due("set(3, " + edge + ")", x.set(3, edge), 1);
            Due.due(edge + " as it was set", x.limbs(3), 0);
            Due.due("one beyond " + edge, x.act(0, 0, 1, 2), 1);
            Due.due("one beyond " + edge, x.limbs(2), 2);
            Due.due("and back again", x.act(1, 2, 1, 4), 1);
            Due.due("and back again", x.limbs(4), 0);
            Due.due("in one form each", x.compare(4, 3), 1);
        }
    }

    private static void limbs() {
        Document.terms("else it has LIMBS: its size (without a sign) in parts of 32 bits, the lowest first");
        for (String sign : new String[] {"", "-"}) {
            // 5 2^64 + 4294967295 2^32 + 7
            WideWholes x = Due.with(sign + "110680464437962342407");
            long[] want = {7, 4294967295L, 5, 0};
            Due.due("limbs", x.limbs(0), 3);
            for (int k = 0; k < want.length; k++) {
                Due.due("limb " + k + " with sign '" + sign + "'", x.limb(0, k), want[k]);
            }
        }
    }

    private static void limbsNoMoreThanNeeded() {
        Document.terms("no more than it needs");
        for (int k = 2; k <= 12; k++) {
            for (String sign : new String[] {"", "-"}) {
                String most = sign + (k < 12 ? "2^" + 32 * k + (sign.isEmpty() ? "-1" : "+1") : "L");
                Due.due("limbs of " + most, Due.with(most).limbs(0), k);
                String least = sign + "2^" + (k == 2 ? 63 : 32 * (k - 1)) + (k == 2 && !sign.isEmpty() ? "-1" : "");
                WideWholes x = Due.with(least, sign + "L");
                Due.due("limbs of " + least, x.limbs(0), k);
                Due.due("from a longer one down", x.act(1, 1, 0, 2), 1);
                Due.due("from a longer one down", x.act(1, 1, 2, 1), 1);
                Due.due("limbs of " + least + ", from a longer one down", x.limbs(1), k);
            }
        }
    }

    static void dueQuotient(int way, String a, String b, String quotient, String left) {
        String call = a + " by " + b + ", way " + way;
        House.gives(call + ", QUOTIENT", 1, quotient, x -> x.over(way, 0, 1, 23, 22), a, b);
        House.gives(call + ", left over", 1, left, x -> x.over(way, 0, 1, 22, 23), a, b);
    }

    private static void waysOfQuotients() {
        Document.terms("QUOTIENTS of a by b come three ways: 0 cut off toward 0;");
        String[][] cutOff = {{"7", "2", "3", "1"}, {"-7", "2", "-3", "-1"}, {"7", "-2", "-3", "1"}, {"-7", "-2", "3", "-1"},
            {"6", "-2", "-3", "0"}, {"-1", "L", "0", "-1"}, {"-L", "L", "-1", "0"}, {"-L", "L-1", "-1", "-1"},
            {"-9223372036854775808", "-1", "9223372036854775808", "0"}, {"0", "-3", "0", "0"}};
        for (String[] row : cutOff) {
            dueQuotient(0, row[0], row[1], row[2], row[3]);
        }
        Document.terms("1 the greatest WHOLE that is not above a by b;");
        String[][] greatest = {{"7", "2", "3", "1"}, {"-7", "2", "-4", "1"}, {"7", "-2", "-4", "-1"}, {"-7", "-2", "3", "-1"},
            {"6", "-2", "-3", "0"}, {"-1", "L", "-1", "L-1"}, {"1", "-L", "-1", "-L+1"}, {"-1", "-L", "0", "-1"},
            {"-L", "L", "-1", "0"}, {"-L", "2", "-2^383", "1"}, {"0", "-3", "0", "0"}};
        for (String[] row : greatest) {
            dueQuotient(1, row[0], row[1], row[2], row[3]);
        }
        Document.terms("2 that with which what is left over is 0 or more, and below the size of b.");
        String[][] never = {{"7", "2", "3", "1"}, {"-7", "2", "-4", "1"}, {"7", "-2", "-3", "1"}, {"-7", "-2", "4", "1"},
            {"-6", "-2", "3", "0"}, {"-1", "L", "-1", "L-1"}, {"-1", "-L", "1", "L-1"}, {"1", "-L", "0", "1"},
            {"L-1", "-L", "0", "L-1"}, {"-L", "L", "-1", "0"}, {"-L", "-2", "2^383", "1"}, {"0", "-3", "0", "0"}};
        for (String[] row : never) {
            dueQuotient(2, row[0], row[1], row[2], row[3]);
        }
    }

    private static void leftOver() {
        Document.terms("What is left over is always a less b times the QUOTIENT.");
        String[] some = {"0", "1", "-1", "2", "-3", "10", "4294967296", "-9223372036854775808", "2^64-1", "-2^128", "2^383",
            "L", "-L", "L-1"};
        for (String a : some) {
            for (String b : some) {
                for (int way = 0; way <= 2 && !b.equals("0"); way++) {
                    WideWholes x = Due.with(a, b);
                    Due.due("over", x.over(way, 0, 1, 2, 3), 1);
                    BigInteger product = Due.whole(b).multiply(Due.get(x, 2));
                    Due.dueSlot(a + " by " + b + ", way " + way, x, 3, Due.whole(a).subtract(product));
                }
            }
        }
        rareTurns();
    }

    /** In base 16: with these a long division's guess at a part of the QUOTIENT is too high, by 1 or by 2. */
    private static void rareTurns() {
        String[][] rows = {{"80000000fffffffe00000000", "80000000fffffffe"},
            {"80000000ffffffff00000000", "80000000fffffffe"},
            {"7fffffff0000000000000000", "80000000fffffffe"},
            {"fffffffe0000000000000000", "80000000ffffffff"},
            {"80000000000000000000000000000000", "3fffffffe00000001"},
            {"3000000010000000000000000", "10000000100000001"},
            {"3000000010000000000000000", "17fffffff00000001"},
            {"1000000000000000000000000", "10000000000000001"},
            {"1000000000000000000000000", "800000000000000000000001"}};
        for (String[] row : rows) {
            BigInteger a = new BigInteger(row[0], 16);
            BigInteger b = new BigInteger(row[1], 16);
            dueQuotient(0, a.toString(), b.toString(), a.divide(b).toString(), a.mod(b).toString());
            dueQuotient(0, a.negate().toString(), b.toString(), a.divide(b).negate().toString(), a.mod(b).negate().toString());
        }
    }

    private static void bits() {
        Document.terms("BITS of a WHOLE are those of its two's form, that goes on for ever (with 0, of one below 0 with 1)");
        WideWholes x = Due.with("0", "-1", "L", "-L", "-2^383", "9223372036854775807", "-9223372036854775808");
        int[][] rows = {{0, 0, 0}, {0, 383, 0}, {0, 384, 0}, {1, 0, 1}, {1, 383, 1}, {1, 384, 1}, {2, 383, 1}, {2, 384, 0},
            {3, 1, 0}, {3, 383, 0}, {3, 384, 1}, {4, 382, 0}, {4, 383, 1}, {4, 384, 1}, {5, 62, 1}, {5, 63, 0}, {5, 64, 0},
            {6, 62, 0}, {6, 63, 1}, {6, 64, 1}};
        for (int[] row : rows) {
            Due.due("bit " + row[1] + " of slot " + row[0], x.bit(row[0], row[1]), row[2]);
        }
        for (int s = 0; s <= 6; s++) {
            int sign = s == 0 || s == 2 || s == 5 ? 0 : 1;
            for (int k : new int[] {415, 416, 417, 1000, Integer.MAX_VALUE - 1, Integer.MAX_VALUE}) {
                Due.due("bit " + k + " of slot " + s, x.bit(s, k), sign);
            }
        }
        Document.terms("bit 0 is the lowest.");
        x = Due.with("1", "-2", "6", "-L");
        int[][] lowest = {{1, 0, 0, 0}, {0, 1, 1, 1}, {0, 1, 1, 0}, {1, 0, 0, 0}};
        for (int s = 0; s < lowest.length; s++) {
            for (int k = 0; k < lowest[s].length; k++) {
                Due.due("bit " + k + " of slot " + s, x.bit(s, k), lowest[s][k]);
            }
        }
    }

    private static void tape() {
        Document.terms("THE TAPE has at most 120 bytes.");
        WideWholes x = new WideWholes();
        Due.due("119 bytes", Due.feedText(x, "0".repeat(119)), 119);
        Due.due("2 more", x.feed(0x3131, 2), -5);
        Due.due("1 more", x.feed(0x37, 1), 120);
        Due.due("1 more", x.feed(0x38, 1), -5);
        Due.due("all 120 are read", x.read(0, 10), 1);
        Due.dueSlot("all 120 are read", x, 0, 7);
    }

    private static void digitsOfBases() {
        Document.terms("DIGITS of a base 2 .. 36 are 0 .. 9, then a .. z, as far as the base goes.");
        for (int base = 2; base <= 36; base++) {
            for (int value = 0; value < 36; value++) {
                WideWholes x = new WideWholes();
                boolean has = value < base;
                String call = "digit '" + Model.DIGITS.charAt(value) + "' in base " + base;
                Due.due(call, Due.readText(x, 0, "1" + Model.DIGITS.charAt(value), base), has ? 1 : -11);
                Due.dueSlot(call, x, 0, has ? base + value : 0);
            }
            WideWholes x = new WideWholes();
            Due.put(x, 0, base - 1);
            Due.due("write the last digit of base " + base, x.write(0, base), 1);
            Due.due("write the last digit of base " + base, x.out(0), Model.DIGITS.charAt(base - 1));
            Due.put(x, 0, base);
            Due.due("write base " + base, x.write(0, base), 2);
            Due.due("write base " + base, Due.outText(x, 2), "10");
        }
        WideWholes x = new WideWholes();
        for (int base : new int[] {1, 37}) {
            Due.due("write in base " + base, x.write(0, base), -1);
            Due.due("read in base " + base, Due.readText(x, 0, "0", base), -1);
            Due.due("digits in base " + base, x.digits(0, base), -1);
        }
    }

    /** Those ahead of 0 and a and behind 9 and z among them, and the capitals. */
    private static void noOtherBytes() {
        for (int b = 0; b <= 255; b++) {
            boolean digit = Model.DIGITS.indexOf(b) >= 0;
            WideWholes x = new WideWholes();
            Due.due("feed byte " + b, x.feed(b, 1), 1);
            Due.due("byte " + b + " in base 36", x.read(0, 36), digit ? 1 : b == '-' ? -11 : -10);
            Due.due("feed byte " + b, x.feed(0x3100 | b, 2), 2);
            Due.due("byte " + b + " in base 10", x.read(0, 10), b >= '0' && b <= '9' ? 1 : -11);
        }
    }

    static void dueDigits(WideWholes x, String p, String q, int base, String head, String round) {
        String call = "digits of " + p + "/" + q + " in base " + base;
        String want = head + round;
        Due.putRatio(x, 2, p, q);
        Due.due(call, x.digits(2, base), want.length());
        Due.due(call + ": HEAD", x.digit(-1), head.length());
        Due.due(call + ": ROUND", x.digit(-2), round.length());
        for (int i = 0; i < want.length(); i++) {
            Due.due(call + ": digit " + i, x.digit(i), Character.digit(want.charAt(i), 36));
        }
        Due.due(call + ": none behind", x.digit(want.length()), -1);
    }

    private static void digitsOfARatio() {
        Document.terms("DIGITS OF A RATIO p above q, with a base: of the size of what is left over of p by q (cut off): "
            + "again and again times the base, the QUOTIENT by q is the next DIGIT, what is left over goes on.");
        WideWholes x = new WideWholes();
        dueDigits(x, "1", "3", 10, "", "3");
        dueDigits(x, "-1", "3", 10, "", "3");
        dueDigits(x, "7", "3", 10, "", "3");
        dueDigits(x, "-8", "3", 10, "", "6");
        dueDigits(x, "1", "101", 10, "", "0099");
        dueDigits(x, "35", "36", 36, "z", "");
        dueDigits(x, "34", "35", 36, "", "y");
        dueDigits(x, "1", "2", 2, "1", "");
        dueDigits(new WideWholes(), "1", "L", 16, "", "0".repeat(95) + "1");
        dueDigits(new WideWholes(), "-L+1", "L", 16, "", "f".repeat(95) + "e");
    }

    private static void head() {
        Document.terms("HEAD: how many come ahead of the first one from which on the same ones come round and round;");
        WideWholes x = new WideWholes();
        dueDigits(x, "1", "7", 10, "", "142857");
        dueDigits(x, "1", "6", 10, "1", "6");
        dueDigits(x, "1", "12", 10, "08", "3");
        dueDigits(x, "1", "14", 10, "0", "714285");
        dueDigits(x, "1", "45", 12, "03", "2497");
        dueDigits(x, "1", "24", 6, "013", "");
        dueDigits(x, "1", "40", 6, "005", "2");
        Due.putRatio(x, 0, BigInteger.ONE, Due.two(199).multiply(BigInteger.valueOf(3)));
        Due.due("199 ahead of a round of 2", x.digits(0, 2), -4);
        Due.putRatio(x, 0, BigInteger.ONE, Due.two(198).multiply(BigInteger.valueOf(3)));
        Due.due("198 ahead of a round of 2", x.digits(0, 2), 200);
        Due.due("198 ahead of a round of 2", x.digit(-1), 198);
        Due.due("198 ahead of a round of 2", x.digit(-2), 2);
    }

    private static void round() {
        Document.terms("ROUND: how many these are, the least number (if 0 is left over, they end: ROUND is 0).");
        WideWholes x = new WideWholes();
        dueDigits(x, "1", "9", 10, "", "1");
        dueDigits(x, "11", "99", 10, "", "1");
        dueDigits(x, "12", "99", 10, "", "12");
        dueDigits(x, "1", "8", 10, "125", "");
        dueDigits(x, "-3", "2", 10, "5", "");
        dueDigits(x, "5", "1", 10, "", "");
        dueDigits(x, "0", "1", 2, "", "");
        dueDigits(x, "L", "1", 36, "", "");
        dueDigits(x, "1", "36", 36, "1", "");
        dueDigits(x, "1", "37", 36, "", "0z");
    }
}
