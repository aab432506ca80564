import java.math.BigInteger;

/** Promises 23 to 28, sentence by sentence: ratios, at their bounds. */
final class RatiosBounds {
    private static final BigInteger ONE = BigInteger.ONE;

    private RatiosBounds() {
    }

    static void run() {
        ratio();
        actRatio();
        actRatioRefusals();
        actRatioFull();
        onTheWay();
        compareRatio();
        part();
        nearest();
        partBad();
        digits();
        digitsRefusals();
        digit();
        digitHeadAndRound();
        digitBad();
    }

    private static void ratio() {
        Document.promise(23, "RATIO r is a above b, in lowest terms: 1.");
        String[][] rows = {{"6", "4", "3", "2"}, {"-6", "4", "-3", "2"}, {"6", "-4", "-3", "2"}, {"-6", "-4", "3", "2"},
            {"0", "-9", "0", "1"}, {"5", "1", "5", "1"}, {"1", "-1", "-1", "1"}, {"L", "1", "L", "1"}, {"-L", "-1", "L", "1"},
            {"1", "L", "1", "L"}, {"1", "-L", "-1", "L"}, {"L", "-L", "-1", "1"}, {"L", "L-1", "L", "L-1"},
            {"L", "2^192-1", "2^192+1", "1"}, {"-9223372036854775808", "-1", "2^63", "1"}};
        for (int r : new int[] {0, 11}) {
            for (String[] row : rows) {
                WideWholes x = Due.with(row[0], row[1]);
                String call = "ratio of " + row[0] + ", " + row[1];
                Due.due(call, x.ratio(0, 1, r), 1);
                Due.dueRatio(call, x, r, row[2], row[3]);
                Due.dueSlot(call, x, 0, row[0]);
                Due.dueSlot(call, x, 1, row[1]);
            }
        }
        WideWholes y = Due.with("2^100", "3");
        Due.due("ratio of slots 0, 1", y.ratio(0, 1, 0), 1);
        Due.due("slot 0 doubles", y.act(0, 0, 0, 0), 1);
        Due.due("slot 1 doubles", y.act(0, 1, 1, 1), 1);
        Due.dueRatio("the RATIO does not", y, 0, "2^100", "3");
        Document.promise(23, "BAD;");
        House.slot("ratio: a", (x, a) -> x.ratio(a, 6, 0));
        House.slot("ratio: b", (x, b) -> x.ratio(6, b, 0));
        House.ratio("ratio: r", (x, r) -> x.ratio(6, 7, r));
        Document.promise(23, "ZERO.");
        House.refuses("5 above 0", -2, x -> x.ratio(House.FIVE, House.NOUGHT, House.HALF));
        House.refuses("0 above 0", -2, x -> x.ratio(House.NOUGHT, House.NOUGHT, House.HALF));
        House.refuses("L above 0", -2, x -> x.ratio(House.L, House.NOUGHT, House.L_ABOVE_1));
        House.takes("0 above slot", (x, b) -> x.ratio(House.NOUGHT, b, House.HALF), House.ONE, House.MINUS_ONE);
    }

    /** a above b and c above d. */
    private static WideWholes withRatios(String a, String b, String c, String d) {
        WideWholes x = new WideWholes();
        Due.putRatio(x, 0, a, b);
        Due.putRatio(x, 1, c, d);
        Due.putRatio(x, 2, 77, 78);
        return x;
    }

    private static void dueAct(int how, String[] row) {
        WideWholes x = withRatios(row[0], row[1], row[2], row[3]);
        String call = "actRatio " + how + " of " + row[0] + "/" + row[1] + ", " + row[2] + "/" + row[3];
        Due.due(call, x.actRatio(how, 0, 1, 11), 1);
        Due.dueRatio(call, x, 11, row[4], row[5]);
    }

    private static void actRatio() {
        Document.promise(24, "RATIO r is p + q (0), p - q (1), p * q (2), p by q (3), in lowest terms: 1.");
        String[][][] rows = {
            {{"1", "6", "1", "3", "1", "2"}, {"1", "2", "-1", "2", "0", "1"}, {"-1", "6", "-1", "3", "-1", "2"},
                {"1", "4", "1", "6", "5", "12"}, {"0", "1", "3", "7", "3", "7"}, {"1", "6", "5", "6", "1", "1"}},
            {{"1", "2", "1", "6", "1", "3"}, {"1", "6", "1", "2", "-1", "3"}, {"3", "7", "3", "7", "0", "1"},
                {"0", "1", "3", "7", "-3", "7"}, {"1", "2", "-1", "2", "1", "1"}, {"3", "1", "0", "1", "3", "1"}},
            {{"2", "3", "3", "4", "1", "2"}, {"-2", "3", "3", "2", "-1", "1"}, {"-1", "2", "-1", "2", "1", "4"},
                {"0", "1", "-3", "7", "0", "1"}, {"3", "7", "0", "1", "0", "1"}, {"3", "7", "1", "1", "3", "7"}},
            {{"2", "3", "4", "3", "1", "2"}, {"2", "3", "-4", "3", "-1", "2"}, {"-2", "3", "-4", "3", "1", "2"},
                {"0", "1", "-3", "7", "0", "1"}, {"3", "7", "3", "7", "1", "1"}, {"1", "1", "-7", "1", "-1", "7"}}};
        for (int how = 0; how <= 3; how++) {
            for (String[] row : rows[how]) {
                dueAct(how, row);
            }
        }
    }

    private static void actRatioRefusals() {
        Document.promise(24, "BAD;");
        for (int k = 0; k <= 3; k++) {
            int how = k;
            House.ratio("actRatio " + how + ": p", (x, p) -> x.actRatio(how, p, House.HALF, 5));
            House.ratio("actRatio " + how + ": q", (x, q) -> x.actRatio(how, House.HALF, q, 5));
            House.ratio("actRatio " + how + ": r", (x, r) -> x.actRatio(how, House.HALF, House.THREE_ELEVENTHS, r));
        }
        House.bounds("actRatio: how", 0, 3, (x, how) -> x.actRatio(how, House.HALF, House.THREE_ELEVENTHS, 0));
        Document.promise(24, "ZERO;");
        House.refuses("1/2 by 0", -2, x -> x.actRatio(3, House.HALF, House.NO_RATIO, House.HALF));
        House.refuses("0 by 0", -2, x -> x.actRatio(3, House.NO_RATIO, House.NO_RATIO, House.HALF));
        House.refuses("L by 0", -2, x -> x.actRatio(3, House.L_ABOVE_1, House.NO_RATIO, House.NO_RATIO));
        for (int how = 0; how <= 2; how++) {
            WideWholes x = withRatios("1", "2", "0", "1");
            Due.due("actRatio " + how + " of 1/2, 0", x.actRatio(how, 0, 1, 2), 1);
        }
        WideWholes x = withRatios("0", "1", "1", "L");
        Due.due("0 by 1/L", x.actRatio(3, 0, 1, 2), 1);
    }

    private static void refusesFull(int how, String a, String b, String c, String d) {
        WideWholes x = withRatios(a, b, c, d);
        String call = "actRatio " + how + " of " + a + "/" + b + ", " + c + "/" + d;
        for (int r = 0; r <= 2; r++) {
            Due.due(call + " for " + r, x.actRatio(how, 0, 1, r), -5);
        }
        Due.dueRatio(call, x, 0, a, b);
        Due.dueRatio(call, x, 1, c, d);
        Due.dueRatio(call, x, 2, 77, 78);
    }

    private static void actRatioFull() {
        Document.promise(24, "FULL: what stands above or below then is beyond");
        dueAct(0, new String[] {"L-1", "1", "1", "1", "L", "1"});
        dueAct(1, new String[] {"-L+1", "1", "1", "1", "-L", "1"});
        dueAct(2, new String[] {"2^192-1", "1", "2^192+1", "1", "L", "1"});
        dueAct(2, new String[] {"1", "2^192-1", "1", "2^192+1", "1", "L"});
        dueAct(3, new String[] {"-1", "2^192-1", "2^192+1", "1", "-1", "L"});
        dueAct(3, new String[] {"2^192-1", "1", "-1", "2^192+1", "-L", "1"});
        dueAct(2, new String[] {"1", "2^191", "1", "2^192", "1", "2^383"});
        dueAct(0, new String[] {"2^191", "1", "1", "2^192", "2^383+1", "2^192"});
        refusesFull(0, "L", "1", "1", "1");
        refusesFull(1, "-L", "1", "1", "1");
        refusesFull(1, "L", "1", "-1", "1");
        refusesFull(2, "2^192", "1", "2^192", "1");
        refusesFull(2, "1", "2^192", "1", "2^192");
        refusesFull(2, "-L", "1", "2", "1");
        refusesFull(2, "1", "L", "1", "2");
        refusesFull(3, "L", "1", "1", "2");
        refusesFull(3, "1", "L", "2", "1");
        refusesFull(3, "1", "L", "-2", "1");
        refusesFull(0, "1", "L", "1", "2");
        refusesFull(0, "1", "2^192", "2^192", "1");
        refusesFull(1, "1", "L", "1", "L-1");
        refusesFull(2, "L", "L-1", "L", "L-1");
        refusesFull(0, "L", "L-1", "L-1", "L");
        refusesFull(1, "-L", "L-1", "L-1", "L");
        House.refuses("L + L", -5, x -> x.actRatio(0, House.L_ABOVE_1, House.L_ABOVE_1, House.HALF));
        House.refuses("1/L * 1/L", -5, x -> x.actRatio(2, House.ONE_ABOVE_L, House.ONE_ABOVE_L, House.HALF));
        House.refuses("L by 1/L", -5, x -> x.actRatio(3, House.L_ABOVE_1, House.ONE_ABOVE_L, House.HALF));
    }

    private static void onTheWay() {
        Document.promise(24, "(what is met on the way does not count)");
        dueAct(0, new String[] {"L", "2", "L", "2", "L", "1"});
        dueAct(1, new String[] {"L", "2", "-L", "2", "L", "1"});
        dueAct(0, new String[] {"1", "L", "L-1", "L", "1", "1"});
        dueAct(0, new String[] {"1", "2^383", "1", "2^383", "1", "2^382"});
        dueAct(1, new String[] {"L", "L-1", "1", "L-1", "1", "1"});
        dueAct(1, new String[] {"L-1", "L", "L-1", "L", "0", "1"});
        dueAct(2, new String[] {"L", "L-1", "L-1", "L", "1", "1"});
        dueAct(2, new String[] {"-L", "2^383", "2^383", "L", "-1", "1"});
        dueAct(2, new String[] {"L", "2", "2", "1", "L", "1"});
        dueAct(3, new String[] {"L", "L-1", "L", "L-1", "1", "1"});
        dueAct(3, new String[] {"L", "2", "-1", "2", "-L", "1"});
        dueAct(3, new String[] {"0", "1", "L", "L-1", "0", "1"});
    }

    private static void compareRatio() {
        Document.promise(25, "As compare(), of RATIOS.");
        String[][] rising = {{"-L", "1"}, {"-L+1", "1"}, {"-3", "2"}, {"-1", "1"}, {"-L+1", "L"}, {"-1", "2"}, {"-1", "L-1"},
            {"-1", "L"}, {"0", "1"}, {"1", "L"}, {"1", "L-1"}, {"1", "3"}, {"1", "2"}, {"L-2", "L-1"}, {"L-1", "L"}, {"1", "1"},
            {"L", "L-1"}, {"L-1", "L-2"}, {"L-1", "1"}, {"L", "1"}};
        for (int p = 0; p < rising.length; p++) {
            for (int q = 0; q < rising.length; q++) {
                WideWholes x = withRatios(rising[p][0], rising[p][1], rising[q][0], rising[q][1]);
                String call = "compareRatio of " + String.join("/", rising[p]) + ", " + String.join("/", rising[q]);
                Due.due(call, x.compareRatio(0, 1), p < q ? 0 : p == q ? 1 : 2);
            }
        }
        WideWholes x = withRatios("2", "4", "-3", "-6");
        Due.due("2/4 and -3/-6 are like", x.compareRatio(0, 1), 1);
        Due.due("one with itself", x.compareRatio(2, 2), 1);
        Document.promise(25, "BAD");
        House.ratio("compareRatio: p", (y, p) -> y.compareRatio(p, 0));
        House.ratio("compareRatio: q", (y, q) -> y.compareRatio(0, q));
    }

    private static void duePart(String p, String q, int which, String want) {
        for (int s : new int[] {0, 23}) {
            WideWholes x = new WideWholes();
            String call = "part " + which + " of " + p + "/" + q;
            Due.putRatio(x, 0, p, q);
            Due.due(call, x.part(0, which, s), 1);
            Due.dueSlot(call, x, s, want);
            Due.dueRatio(call, x, 0, p, q);
        }
    }

    private static void part() {
        Document.promise(26, "SLOT s is what stands above (which = 0), below (1), "
            + "the greatest WHOLE not above the RATIO (2), ");
        String[][] rows = {{"0", "1", "0"}, {"1", "2", "0"}, {"-1", "2", "-1"}, {"9", "1", "9"}, {"-9", "1", "-9"},
            {"7", "3", "2"}, {"-7", "3", "-3"}, {"1", "L", "0"}, {"-1", "L", "-1"}, {"L-1", "L", "0"}, {"-L+1", "L", "-1"},
            {"L", "L-1", "1"}, {"-L", "L-1", "-2"}, {"L", "1", "L"}, {"-L", "1", "-L"}, {"L", "2", "2^383-1"},
            {"-L", "2", "-2^383"}};
        for (String[] row : rows) {
            duePart(row[0], row[1], 0, row[0]);
            duePart(row[0], row[1], 1, row[1]);
            duePart(row[0], row[1], 2, row[2]);
        }
        WideWholes x = new WideWholes();
        Due.putRatio(x, 0, "2^100", "3");
        Due.due("part 0", x.part(0, 0, 4), 1);
        Due.due("part 1", x.part(0, 1, 5), 1);
        Due.due("slot 4 doubles", x.act(0, 4, 4, 4), 1);
        Due.due("slot 5 doubles", x.act(0, 5, 5, 5), 1);
        Due.dueRatio("the RATIO does not", x, 0, "2^100", "3");
    }

    private static void nearest() {
        Document.promise(26, "the nearest one, of two the even one (3): 1.");
        String[][] rows = {{"0", "1", "0"}, {"1", "2", "0"}, {"-1", "2", "0"}, {"3", "2", "2"}, {"-3", "2", "-2"},
            {"5", "2", "2"}, {"-5", "2", "-2"}, {"7", "2", "4"}, {"-7", "2", "-4"}, {"1", "3", "0"}, {"2", "3", "1"},
            {"-1", "3", "0"}, {"-2", "3", "-1"}, {"4", "3", "1"}, {"5", "3", "2"}, {"-4", "3", "-1"}, {"-5", "3", "-2"},
            {"9", "1", "9"}, {"-9", "1", "-9"}, {"L", "1", "L"}, {"-L", "1", "-L"}, {"L", "2", "2^383"}, {"-L", "2", "-2^383"},
            {"L-2", "2", "2^383-2"}, {"1", "L", "0"}, {"-1", "L", "0"}, {"L-1", "L", "1"}, {"-L+1", "L", "-1"},
            {"2^383", "L", "1"}, {"-2^383", "L", "-1"}, {"2^383-1", "L", "0"}, {"-2^383+1", "L", "0"}, {"L", "L-1", "1"},
            {"-L", "L-1", "-1"}, {"L", "2^383", "2"}, {"L", "2^383-1", "2"}};
        for (String[] row : rows) {
            duePart(row[0], row[1], 3, row[2]);
        }
    }

    private static void partBad() {
        Document.promise(26, "BAD");
        for (int k = 0; k <= 3; k++) {
            int which = k;
            House.ratio("part " + which + ": r", (x, r) -> x.part(r, which, 6));
            House.slot("part " + which + ": s", (x, s) -> x.part(House.HALF, which, s));
        }
        House.bounds("part: which", 0, 3, (x, which) -> x.part(House.HALF, which, 6));
    }

    private static void dueCount(String call, BigInteger p, BigInteger q, int base, int head, int round) {
        WideWholes x = new WideWholes();
        Due.putRatio(x, 0, p, q);
        Due.due(call, x.digits(0, base), head + round);
        Due.due(call + ": HEAD", x.digit(-1), head);
        Due.due(call + ": ROUND", x.digit(-2), round);
    }

    private static void digits() {
        Document.promise(27, "DIGITS of a RATIO are reckoned: HEAD and ROUND together.");
        dueCount("0", BigInteger.ZERO, ONE, 10, 0, 0);
        dueCount("L", Due.L, ONE, 2, 0, 0);
        dueCount("1/2", ONE, BigInteger.TWO, 2, 1, 0);
        dueCount("1/3", ONE, BigInteger.valueOf(3), 2, 0, 2);
        dueCount("1/6", ONE, BigInteger.valueOf(6), 10, 1, 1);
        dueCount("1/28", ONE, BigInteger.valueOf(28), 10, 2, 6);
        dueCount("-29/28", BigInteger.valueOf(-29), BigInteger.valueOf(28), 10, 2, 6);
        dueCount("1/36", ONE, BigInteger.valueOf(36), 36, 1, 0);
        dueCount("1/35", ONE, BigInteger.valueOf(35), 36, 0, 1);
        dueCount("1/L", ONE, Due.L, 16, 0, 96);
        dueCount("1/2^383", ONE, Due.two(383), 16, 96, 0);
        dueCount("1/3^200", ONE, Due.whole("3^200"), 3, 200, 0);
    }

    private static BigInteger allOnes(int n) {
        return Due.two(n).subtract(ONE);
    }

    private static void digitsRefusals() {
        Document.promise(27, "BAD: RATIO, base;");
        House.ratio("digits: r", (x, r) -> x.digits(r, 10));
        House.base("digits: base", (x, base) -> x.digits(House.HALF, base));
        Document.promise(27, "NONE: they would be more than 200.");
        dueCount("200 ahead", ONE, Due.two(200), 2, 200, 0);
        dueCount("200 round", ONE, allOnes(200), 2, 0, 200);
        dueCount("1 ahead, 199 round", ONE, allOnes(199).shiftLeft(1), 2, 1, 199);
        dueCount("199 ahead, 1 round", ONE, Due.two(199).multiply(BigInteger.valueOf(3)), 10, 199, 1);
        dueCount("100 ahead, 100 round", ONE, allOnes(100).shiftLeft(100), 2, 100, 100);
        dueCount("200 of base 3", ONE, Due.whole("3^200"), 3, 200, 0);
        House.refuses("383 ahead", -4, x -> x.digits(House.MANY_DIGITS, 2));
        House.refuses("384 round", -4, x -> x.digits(House.ONE_ABOVE_L, 2));
        refusesNone("201 ahead", Due.two(201), 2);
        refusesNone("201 round", allOnes(201), 2);
        refusesNone("2 ahead, 199 round", allOnes(199).shiftLeft(2), 2);
        refusesNone("1 ahead, 200 round", allOnes(200).shiftLeft(1), 2);
        refusesNone("200 ahead, 1 round", Due.two(200).multiply(BigInteger.valueOf(3)), 10);
        refusesNone("200 ahead, 2 round", Due.two(200).multiply(BigInteger.valueOf(3)), 2);
        refusesNone("101 ahead, 100 round", allOnes(100).shiftLeft(101), 2);
        refusesNone("201 of base 3", Due.whole("3^201"), 3);
        refusesNone("200 ahead, 184 round", allOnes(184).shiftLeft(200), 2);
    }

    private static void refusesNone(String call, BigInteger q, int base) {
        WideWholes x = new WideWholes();
        TermsBounds.dueDigits(x, "1", "12", 10, "08", "3");
        Due.putRatio(x, 0, ONE, q);
        Due.due(call, x.digits(0, base), -4);
        int[] kept = {0, 8, 3};
        for (int i = 0; i < kept.length; i++) {
            Due.due(call + " leaves digit " + i, x.digit(i), kept[i]);
        }
        Due.due(call + " leaves HEAD", x.digit(-1), 2);
        Due.due(call + " leaves ROUND", x.digit(-2), 1);
        Due.dueRatio(call, x, 0, ONE, q);
    }

    private static void digit() {
        Document.promise(28, "DIGIT i of the latest digits() that was not refused, 0 .. 35;");
        WideWholes x = new WideWholes();
        Due.putRatio(x, 0, 1, 7);
        Due.putRatio(x, 1, 35, 36);
        Due.putRatio(x, 2, ONE, Due.two(383));
        Due.due("digits of 1/7", x.digits(0, 10), 6);
        Due.due("the first", x.digit(0), 1);
        Due.due("the last", x.digit(5), 7);
        Due.due("a refused one", x.digits(2, 2), -4);
        Due.due("a refused one", x.digits(0, 37), -1);
        Due.due("a refused one", x.digits(12, 10), -1);
        Due.putRatio(x, 0, 1, 3);
        Due.due("of the latest that was not: the first", x.digit(0), 1);
        Due.due("of the latest that was not: the last", x.digit(5), 7);
        Due.due("digits of 35/36", x.digits(1, 36), 1);
        Due.due("the greatest there is", x.digit(0), 35);
        Due.due("digits of 1/3 in base 2", x.digits(0, 2), 2);
        Due.due("the least there is", x.digit(0), 0);
        Due.due("the last", x.digit(1), 1);
        x = new WideWholes();
        Due.putRatio(x, 0, ONE, Due.two(200));
        Due.due("200 digits", x.digits(0, 2), 200);
        Due.due("the last but one of 200", x.digit(198), 0);
        Due.due("the last of 200", x.digit(199), 1);
    }

    private static void digitHeadAndRound() {
        Document.promise(28, "i = -1 HEAD, -2 ROUND (both 0 before one).");
        WideWholes x = new WideWholes();
        Due.due("HEAD before one", x.digit(-1), 0);
        Due.due("ROUND before one", x.digit(-2), 0);
        Due.putRatio(x, 1, ONE, Due.two(383));
        Due.due("refused, so there is none yet", x.digits(1, 2), -4);
        Due.due("HEAD before one that is not refused", x.digit(-1), 0);
        Due.due("ROUND before one that is not refused", x.digit(-2), 0);
        TermsBounds.dueDigits(x, "1", "28", 10, "03", "571428");
        TermsBounds.dueDigits(x, "5", "1", 10, "", "");
    }

    private static void digitBad() {
        Document.promise(28, "BAD: there is none such.");
        for (int i : new int[] {0, 1, 199, 200, -3, Integer.MIN_VALUE, Integer.MAX_VALUE}) {
            Due.due("digit(" + i + ") before one", new WideWholes().digit(i), -1);
        }
        House.isBad("digit", (x, i) -> x.digit(i), 3, 4, -3, 199, 200, Integer.MIN_VALUE, Integer.MAX_VALUE);
        House.takes("digit", (x, i) -> x.digit(i), 0, 2, -1, -2);
        WideWholes x = new WideWholes();
        TermsBounds.dueDigits(x, "1", "7", 10, "", "142857");
        Due.due("digit(6) of 6", x.digit(6), -1);
        TermsBounds.dueDigits(x, "5", "1", 10, "", "");
        Due.due("digit(0) of none, where there was one once", x.digit(0), -1);
        Due.putRatio(x, 0, ONE, Due.two(200));
        Due.due("200 digits", x.digits(0, 2), 200);
        Due.due("digit(200) of 200", x.digit(200), -1);
    }
}
