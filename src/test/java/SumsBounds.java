import java.math.BigInteger;

/** Promises 11 to 17, sentence by sentence: sums, products, quotients, at their bounds. */
final class SumsBounds {
    private static final BigInteger ONE = BigInteger.ONE;
    private static final String LEAST = "-9223372036854775808";
    private static final String MOST = "9223372036854775807";

    private SumsBounds() {
    }

    static void run() {
        act();
        actBad();
        actFull();
        over();
        overRefusals();
        overNeverFull();
        divisor();
        power();
        powerFull();
        root();
        rootRefusals();
        rest();
        restRefusals();
        inverse();
        inverseRefusals();
    }

    private static void dueAct(int how, String a, String b, String want) {
        House.gives("act " + how + " of " + a + ", " + b, 1, want, x -> x.act(how, 0, 1, 23), a, b);
    }

    private static void act() {
        Document.promise(11, "c is a + b (how = 0), a - b (1), a * b (2): 1.");
        dueAct(0, "7", "-3", "4");
        dueAct(1, "7", "-3", "10");
        dueAct(2, "7", "-3", "-21");
        dueAct(1, "-3", "7", "-10");
        dueAct(0, "4294967295", "1", "4294967296");
        dueAct(0, MOST, "1", "2^63");
        dueAct(0, LEAST, LEAST, "-2^64");
        dueAct(0, "2^64-1", "1", "2^64");
        dueAct(1, LEAST, "1", "-2^63-1");
        dueAct(1, "0", LEAST, "2^63");
        dueAct(1, "2^64", "1", "2^64-1");
        dueAct(1, "L", "L", "0");
        dueAct(0, "-L", "L", "0");
        dueAct(2, LEAST, "-1", "2^63");
        dueAct(2, LEAST, LEAST, "2^126");
        dueAct(2, "L", "0", "0");
        dueAct(2, "-1", "0", "0");
        dueAct(2, "-1", "-L", "L");
        WideWholes x = Due.with("-1", "0");
        Due.due("-1 * 0", x.act(2, 0, 1, 0), 1);
        Due.due("-1 * 0 is like 0", x.compare(0, 1), 1);
    }

    private static void actBad() {
        Document.promise(11, "BAD: SLOTS, how;");
        House.slot("act: a", (x, a) -> x.act(0, a, 6, 7));
        House.slot("act: b", (x, b) -> x.act(0, 6, b, 7));
        House.slot("act: c", (x, c) -> x.act(0, 6, 7, c));
        House.bounds("act: how", 0, 2, (x, how) -> x.act(how, 6, 7, 0));
    }

    private static void actFull() {
        Document.promise(11, "FULL.");
        dueAct(0, "L-1", "1", "L");
        dueAct(0, "-L+1", "-1", "-L");
        dueAct(1, "L-1", "-1", "L");
        dueAct(1, "-L+1", "1", "-L");
        dueAct(0, "2^383", "2^383-1", "L");
        dueAct(2, "2^192-1", "2^192+1", "L");
        dueAct(2, "-2^192+1", "2^192+1", "-L");
        dueAct(2, "2^191", "2^192", "2^383");
        String[][] beyond = {{"0", "L", "1"}, {"0", "-L", "-1"}, {"1", "L", "-1"}, {"1", "-L", "1"}, {"0", "2^383", "2^383"},
            {"0", "L", "L"}, {"1", "-L", "L"}, {"2", "2^192", "2^192"}, {"2", "-2^192", "2^192"}, {"2", "2^383", "2"},
            {"2", "L", "-2"}, {"2", "L", "L"}, {"2", "-L", "L"}};
        for (String[] row : beyond) {
            int how = Integer.parseInt(row[0]);
            House.isFull("act " + how + " of " + row[1] + ", " + row[2], (x, c) -> x.act(how, 0, 1, c), row[1], row[2]);
        }
        House.refuses("L + L", -5, x -> x.act(0, House.L, House.L, House.FIVE));
        House.refuses("-L - L", -5, x -> x.act(1, House.MINUS_L, House.L, House.FIVE));
        House.refuses("L * L", -5, x -> x.act(2, House.L, House.L, House.FIVE));
    }

    private static void over() {
        Document.promise(12, "c is the QUOTIENT of a by b (way 0 .. 2), d what is left over: 1.");
        // the QUOTIENT and what is left over, of ways 0, 1, 2
        String[][] rows = {{"17", "5", "3", "2", "3", "2", "3", "2"}, {"-17", "5", "-3", "-2", "-4", "3", "-4", "3"},
            {"17", "-5", "-3", "2", "-4", "-3", "-3", "2"}, {"-17", "-5", "3", "-2", "3", "-2", "4", "3"}};
        for (String[] row : rows) {
            for (int way = 0; way <= 2; way++) {
                TermsBounds.dueQuotient(way, row[0], row[1], row[2 + 2 * way], row[3 + 2 * way]);
            }
        }
        for (int way = 0; way <= 2; way++) {
            TermsBounds.dueQuotient(way, "0", "5", "0", "0");
            TermsBounds.dueQuotient(way, "0", "-L", "0", "0");
            TermsBounds.dueQuotient(way, "4", "5", "0", "4");
            TermsBounds.dueQuotient(way, "5", "5", "1", "0");
            TermsBounds.dueQuotient(way, "-5", "5", "-1", "0");
            TermsBounds.dueQuotient(way, "L", "1", "L", "0");
            TermsBounds.dueQuotient(way, "L", "-1", "-L", "0");
            TermsBounds.dueQuotient(way, "L-1", "L", "0", "L-1");
            TermsBounds.dueQuotient(way, "2^64", "2^32", "4294967296", "0");
            TermsBounds.dueQuotient(way, "2^64-1", "4294967296", "4294967295", "4294967295");
            TermsBounds.dueQuotient(way, LEAST, "-1", "2^63", "0");
        }
    }

    private static void overRefusals() {
        Document.promise(12, "BAD: also c is d;");
        House.slot("over: a", (x, a) -> x.over(0, a, 6, 7, 8));
        House.slot("over: b", (x, b) -> x.over(0, 6, b, 7, 8));
        House.slot("over: c", (x, c) -> x.over(0, 6, 7, c, 8));
        House.slot("over: d", (x, d) -> x.over(0, 6, 7, 8, d));
        House.bounds("over: way", 0, 2, (x, way) -> x.over(way, 6, 7, 8, 9));
        for (int s = 0; s <= 23; s++) {
            int both = s;
            House.refuses("over: c and d are " + s, -1, x -> x.over(0, House.SIX, House.FIVE, both, both));
        }
        Document.promise(12, "ZERO;");
        for (int k = 0; k <= 2; k++) {
            int way = k;
            House.refuses("5 by 0", -2, x -> x.over(way, House.FIVE, House.NOUGHT, House.SIX, House.THREE));
            House.refuses("L by 0", -2, x -> x.over(way, House.L, House.NOUGHT, House.L, House.NOUGHT));
            House.refuses("0 by 0", -2, x -> x.over(way, House.NOUGHT, House.NOUGHT, House.SIX, House.THREE));
            House.takes("0 by slot", (x, b) -> x.over(way, House.NOUGHT, b, 0, 1), House.ONE, House.MINUS_ONE);
        }
    }

    /** No QUOTIENT and nothing left over is wider than a and b: what is named here never comes. */
    private static void overNeverFull() {
        Document.promise(12, "FULL.");
        String[] widest = {"L", "-L", "L-1", "-L+1"};
        String[] by = {"1", "-1", "2", "-2", "3", "L", "-L", "L-1", "-L+1", "2^383", "-2^383"};
        for (String a : widest) {
            for (String b : by) {
                for (int way = 0; way <= 2; way++) {
                    WideWholes x = Due.with(a, b);
                    Due.due(a + " by " + b + ", way " + way, x.over(way, 0, 1, 2, 3), 1);
                    BigInteger back = Due.get(x, 2).multiply(Due.whole(b)).add(Due.get(x, 3));
                    Due.due(a + " by " + b + ", way " + way + ", and back", back, Due.whole(a));
                }
            }
        }
    }

    private static void divisor() {
        Document.promise(13, "c is the greatest common divisor of a and b (0 of 0 and 0; never below 0): 1.");
        String[][] rows = {{"0", "0", "0"}, {"0", "5", "5"}, {"-5", "0", "5"}, {"0", "-1", "1"}, {"12", "18", "6"},
            {"-12", "18", "6"}, {"12", "-18", "6"}, {"-12", "-18", "6"}, {"7", "7", "7"}, {"-7", "-7", "7"}, {"1", "L", "1"},
            {"L", "L", "L"}, {"-L", "-L", "L"}, {"-L", "0", "L"}, {"L", "L-1", "1"}, {"L", "2^192-1", "2^192-1"},
            {LEAST, LEAST, "2^63"}, {LEAST, "0", "2^63"}, {"2^383", "-2^200", "2^200"}};
        for (String[] row : rows) {
            String call = "divisor of " + row[0] + ", " + row[1];
            House.gives(call, 1, row[2], x -> x.divisor(0, 1, 23), row[0], row[1]);
        }
        Document.promise(13, "BAD");
        House.slot("divisor: a", (x, a) -> x.divisor(a, 6, 7));
        House.slot("divisor: b", (x, b) -> x.divisor(6, b, 7));
        House.slot("divisor: c", (x, c) -> x.divisor(6, 7, c));
    }

    private static void duePower(String a, int n, String want) {
        House.gives(a + " to the power of " + n, 1, want, x -> x.power(0, n, 23), a);
    }

    private static void power() {
        Document.promise(14, "c is a to the power of n (1, if n is 0): 1.");
        for (String a : new String[] {"0", "1", "-1", "-5", "L", "-L"}) {
            duePower(a, 0, "1");
            duePower(a, 1, a);
        }
        duePower("0", 2000, "0");
        duePower("1", 2000, "1");
        duePower("-1", 2000, "1");
        duePower("-1", 1999, "-1");
        duePower("-3", 3, "-27");
        duePower("-3", 4, "81");
        Document.promise(14, "BAD: SLOTS, n is not 0 .. 2000;");
        House.slot("power: a", (x, a) -> x.power(a, 2, 6));
        House.slot("power: c", (x, c) -> x.power(6, 2, c));
        House.bounds("power: n", 0, 2000, (x, n) -> x.power(House.ONE, n, 0));
        House.bounds("power of 0: n", 0, 2000, (x, n) -> x.power(House.NOUGHT, n, 0));
    }

    private static void powerFull() {
        Document.promise(14, "FULL.");
        duePower("2", 383, "2^383");
        duePower("-2", 383, "-2^383");
        duePower("3", 242, "3^242");
        duePower("4", 191, "4^191");
        duePower("L", 1, "L");
        duePower("-L", 1, "-L");
        String[][] beyond = {{"2", "384"}, {"-2", "384"}, {"-2", "385"}, {"3", "243"}, {"4", "192"}, {"L", "2"}, {"-L", "2"},
            {"2^192", "2"}, {"-2^128", "3"}, {"2", "385"}, {"2", "512"}, {"2", "768"}, {"2", "1024"}, {"2", "2000"},
            {"L", "2000"}};
        for (String[] row : beyond) {
            int n = Integer.parseInt(row[1]);
            House.isFull(row[0] + " to the power of " + n, (x, c) -> x.power(0, n, c), row[0], "5");
        }
        duePower("2^192-1", 2, Due.whole("2^192-1").pow(2).toString());
        duePower("2^128-1", 3, Due.whole("2^128-1").pow(3).toString());
        House.refuses("2 to the power of 384", -5, x -> x.power(House.TWO, 384, House.FIVE));
    }

    private static void dueRoot(BigInteger a, int n, BigInteger root, int answer) {
        House.gives("root " + n + " of " + a, answer, root.toString(), x -> x.root(0, n, 23), a.toString());
    }

    /** The greatest one whose power of n is within L. */
    private static BigInteger widestRoot(int n) {
        BigInteger root = BigInteger.ZERO;
        for (int k = 384 / n; k >= 0; k--) {
            root = root.setBit(k).pow(n).compareTo(Due.L) <= 0 ? root.setBit(k) : root;
        }
        return root;
    }

    private static void root() {
        Document.promise(15, "c is the greatest WHOLE whose power of n is not above a: 1 if that is a, else 0.");
        for (int n = 2; n <= 9; n++) {
            dueRoot(BigInteger.ZERO, n, BigInteger.ZERO, 1);
            dueRoot(ONE, n, ONE, 1);
            dueRoot(BigInteger.TWO, n, ONE, 0);
            BigInteger widest = widestRoot(n);
            dueRoot(Due.L, n, widest, 0);
            for (BigInteger r : new BigInteger[] {BigInteger.TWO, BigInteger.valueOf(3), Due.two(32), widest}) {
                dueRoot(r.pow(n), n, r, 1);
                dueRoot(r.pow(n).subtract(ONE), n, r.subtract(ONE), 0);
                dueRoot(r.pow(n).add(ONE), n, r, 0);
                dueRoot(r.add(ONE).pow(n).subtract(ONE).min(Due.L), n, r, 0);
            }
        }
        dueRoot(Due.two(383), 2, Due.two(383).sqrt(), 0);
        dueRoot(Due.two(378), 9, Due.two(42), 1);
    }

    private static void rootRefusals() {
        Document.promise(15, "BAD: n is not 2 .. 9;");
        House.slot("root: a", (x, a) -> x.root(a, 2, 6));
        House.slot("root: c", (x, c) -> x.root(6, 2, c));
        House.bounds("root: n", 2, 9, (x, n) -> x.root(House.FIVE, n, 6));
        House.isBad("root: n", (x, n) -> x.root(House.FIVE, n, 6), 0, -2);
        Document.promise(15, "STATE: a is below 0.");
        for (int k = 2; k <= 9; k++) {
            int n = k;
            House.refuses("root " + n + " of -1", -3, x -> x.root(House.MINUS_ONE, n, House.SIX));
            House.refuses("root " + n + " of -L", -3, x -> x.root(House.MINUS_L, n, House.MINUS_L));
            House.refuses("root " + n + " of -7", -3, x -> x.root(House.MINUS_SEVEN, n, House.SIX));
            House.takes("root " + n + " of slot", (x, a) -> x.root(a, n, House.SIX), House.NOUGHT, House.ONE);
        }
    }

    private static void dueRest(String a, int e, String m, String want) {
        House.gives("rest of " + a + ", " + e + ", " + m, 1, want, x -> x.rest(0, e, 1, 23), a, m);
    }

    private static void rest() {
        Document.promise(16, "c is what is left over of a to the power of e by m (way 2): 1.");
        dueRest("3", 4, "7", "4");
        dueRest("-3", 1, "7", "4");
        dueRest("-3", 2, "7", "2");
        dueRest("-1", 1000000, "7", "1");
        dueRest("-1", 999999, "7", "6");
        dueRest("7", 1, "7", "0");
        dueRest("6", 1, "7", "6");
        dueRest("8", 1, "7", "1");
        dueRest("5", 0, "7", "1");
        dueRest("0", 0, "7", "1");
        dueRest("0", 1, "7", "0");
        dueRest("0", 1000000, "7", "0");
        dueRest("5", 0, "1", "0");
        dueRest("0", 0, "1", "0");
        dueRest("L", 1000000, "1", "0");
        dueRest("2", 1000000, "2^127-1", "2^2");
        dueRest("2", 128, "2^128-1", "1");
        dueRest("-L", 1, "2^128-1", "0");
        dueRest("-L", 3, "2", "1");
        for (String m : new String[] {"2", "1000003", "2^64", "2^128-1", "2^128-159"}) {
            for (String a : new String[] {"L", "-L", "2^383", "-2^383", "2^128-1", "-2^128", LEAST, "-1"}) {
                for (int e : new int[] {0, 1, 2, 999999, 1000000}) {
                    dueRest(a, e, m, Due.whole(a).modPow(BigInteger.valueOf(e), Due.whole(m)).toString());
                }
            }
        }
    }

    private static void restRefusals() {
        Document.promise(16, "BAD: SLOTS, e is not 0 .. 1000000;");
        House.slot("rest: a", (x, a) -> x.rest(a, 2, House.PRIME, 6));
        House.slot("rest: m", (x, m) -> x.rest(6, 2, m, 6));
        House.slot("rest: c", (x, c) -> x.rest(6, 2, House.PRIME, c));
        House.bounds("rest: e", 0, 1000000, (x, e) -> x.rest(6, e, House.PRIME, 6));
        Document.promise(16, "ZERO: m is 0;");
        for (int e : new int[] {0, 1, 1000000}) {
            House.refuses("rest by 0", -2, x -> x.rest(House.FIVE, e, House.NOUGHT, House.SIX));
            House.refuses("rest of 0 by 0", -2, x -> x.rest(House.NOUGHT, e, House.NOUGHT, House.NOUGHT));
            Due.due("rest by 1", Due.with("5", "1").rest(0, e, 1, 2), 1);
        }
        Document.promise(16, "STATE: m is below 0, or needs more than 128 BITS.");
        for (int m : new int[] {House.MINUS_ONE, House.MINUS_L, House.TWO_TO_128, House.L}) {
            House.refuses("rest by slot " + m, -3, x -> x.rest(House.FIVE, 0, m, House.SIX));
            House.refuses("rest by slot " + m, -3, x -> x.rest(House.FIVE, 1000000, m, m));
        }
        Due.due("rest by 2^128 - 1", Due.with("5", "2^128-1").rest(0, 3, 1, 2), 1);
        Due.due("rest by 2^127", Due.with("5", "2^127").rest(0, 3, 1, 2), 1);
        Due.due("rest by 2^128", Due.with("5", "2^128").rest(0, 3, 1, 2), -3);
        Due.due("rest by -2^128", Due.with("5", "-2^128").rest(0, 3, 1, 2), -3);
    }

    private static void dueInverse(String a, String m, String want) {
        House.gives("inverse of " + a + " by " + m, 1, want, x -> x.inverse(0, 1, 23), a, m);
    }

    private static void inverse() {
        Document.promise(17, "c is the WHOLE of 0 .. m - 1 that times a leaves 1 by m (way 2; 0, if m is 1): 1.");
        dueInverse("3", "7", "5");
        dueInverse("-3", "7", "2");
        dueInverse("10", "7", "5");
        dueInverse("1", "7", "1");
        dueInverse("6", "7", "6");
        dueInverse("-1", "7", "6");
        dueInverse("8", "7", "1");
        dueInverse("1", "2", "1");
        dueInverse("-L", "2", "1");
        for (String a : new String[] {"0", "1", "-1", "5", "L", "-L"}) {
            dueInverse(a, "1", "0");
        }
        dueInverse("2", "2^128-1", "2^127");
        dueInverse("-2", "2^128-1", "2^127-1");
        dueInverse("2^128-2", "2^128-1", "2^128-2");
        dueInverse("-1", "2^128-1", "2^128-2");
        dueInverse("2^383", "2^128-1", "2");
        dueInverse("L", "2^128-159", Due.L.modInverse(Due.whole("2^128-159")).toString());
        dueInverse("-L", "2^127-1", Due.L.negate().modInverse(Due.whole("2^127-1")).toString());
    }

    private static void inverseRefusals() {
        Document.promise(17, "BAD;");
        House.slot("inverse: a", (x, a) -> x.inverse(a, House.PRIME, 6));
        House.slot("inverse: m", (x, m) -> x.inverse(House.THREE, m, 6));
        House.slot("inverse: c", (x, c) -> x.inverse(House.THREE, House.PRIME, c));
        Document.promise(17, "ZERO: m is 0;");
        for (int a : new int[] {House.NOUGHT, House.ONE, House.MINUS_ONE, House.L}) {
            House.refuses("inverse of slot " + a + " by 0", -2, x -> x.inverse(a, House.NOUGHT, House.SIX));
        }
        Document.promise(17, "STATE: m is below 0, or needs more than 128 BITS;");
        for (int m : new int[] {House.MINUS_ONE, House.MINUS_SEVEN, House.MINUS_L, House.TWO_TO_128, House.L}) {
            House.refuses("inverse of 5 by slot " + m, -3, x -> x.inverse(House.FIVE, m, House.SIX));
        }
        Due.due("inverse by 2^128 - 1", Due.with("2", "2^128-1").inverse(0, 1, 2), 1);
        Due.due("inverse by 2^127", Due.with("3", "2^127").inverse(0, 1, 2), 1);
        Due.due("inverse by 2^128", Due.with("3", "2^128").inverse(0, 1, 2), -3);
        Due.due("inverse by -2^128", Due.with("3", "-2^128").inverse(0, 1, 2), -3);
        Document.promise(17, "NONE: there is none.");
        House.refuses("inverse of 0 by 2", -4, x -> x.inverse(House.NOUGHT, House.TWO, House.FIVE));
        House.refuses("inverse of 3 by 6", -4, x -> x.inverse(House.THREE, House.SIX, House.FIVE));
        House.refuses("inverse of 6 by 6", -4, x -> x.inverse(House.SIX, House.SIX, House.SIX));
        House.refuses("inverse of -2 by 2", -4, x -> x.inverse(House.MINUS_TWO, House.TWO, House.FIVE));
        House.refuses("inverse of 6 by 3", -4, x -> x.inverse(House.SIX, House.THREE, House.THREE));
        Due.due("inverse of L by 2^128 - 1", Due.with("L", "2^128-1").inverse(0, 1, 2), -4);
    }
}
