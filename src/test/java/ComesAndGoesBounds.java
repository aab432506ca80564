import java.math.BigInteger;

/** Promises 1 to 10, sentence by sentence: what comes and goes, at its bounds. */
final class ComesAndGoesBounds {
    private ComesAndGoesBounds() {
    }

    static void run() {
        newObject();
        set();
        feed();
        feedFull();
        read();
        readEmpties();
        readWrong();
        readFull();
        write();
        writeBad();
        out();
        low();
        limbs();
        limb();
        compare();
    }

    private static void newObject() {
        Document.promise(1, "All SLOTS 0");
        WideWholes x = new WideWholes();
        for (int s = 0; s <= 23; s++) {
            Due.dueSlot("new", x, s, 0);
        }
        Document.promise(1, "all RATIOS 0 above 1");
        x = new WideWholes();
        for (int r = 0; r <= 11; r++) {
            Due.dueRatio("new", x, r, 0, 1);
        }
        Document.promise(1, "an empty tape");
        Due.due("its first byte", new WideWholes().feed('1', 1), 1);
        Due.due("read of nothing", new WideWholes().read(0, 10), -10);
        x = new WideWholes();
        Due.due("room for 120 bytes", Due.feedText(x, "0".repeat(120)), 120);
    }

    private static void set() {
        Document.promise(2, "A SLOT is v: 1.");
        long[] values = {0, 1, -1, 4294967295L, 4294967296L, -4294967295L, -4294967296L, Long.MAX_VALUE, Long.MIN_VALUE + 1,
            Long.MIN_VALUE};
        for (int s : new int[] {0, 23}) {
            WideWholes x = new WideWholes();
            for (long v : values) {
                Due.due("set(" + s + ", " + v + ")", x.set(s, v), 1);
                Due.dueSlot("set(" + s + ", " + v + ")", x, s, v);
                Due.put(x, s, Due.L.negate());
                Due.due("set(" + s + ", " + v + ") where -L was", x.set(s, v), 1);
                Due.dueSlot("set(" + s + ", " + v + ") where -L was", x, s, v);
            }
        }
        Document.promise(2, "BAD");
        House.slot("set: s", (x, s) -> x.set(s, 9));
    }

    private static void feed() {
        Document.promise(3, "The n lowest bytes of w, the highest first, come behind THE TAPE: how many it has.");
        for (int n = 1; n <= 8; n++) {
            WideWholes x = new WideWholes();
            Due.due("the first", x.feed('9', 1), 1);
            Due.due("feed(.., " + n + ")", x.feed(0x3132333435363738L, n), n + 1);
            Due.due("read", x.read(0, 10), 1);
            Due.dueSlot("9, and the lowest " + n, x, 0, "9" + "12345678".substring(8 - n));
        }
        WideWholes x = new WideWholes();
        Due.due("bytes above the n lowest", x.feed(0xFFFFFFFFFFFFFF35L, 1), 1);
        Due.due("bytes above the n lowest", x.read(0, 10), 1);
        Due.dueSlot("bytes above the n lowest", x, 0, 5);
        Due.due("a highest byte above 127", x.feed(0x8031313131313131L, 8), 8);
        Due.due("a highest byte above 127", x.read(0, 10), -10);
        Document.promise(3, "BAD: n is not 1 .. 8");
        House.bounds("feed: n", 1, 8, (y, n) -> y.feed(0x3131313131313131L, n));
    }

    private static void feedFull() {
        Document.promise(3, "FULL");
        for (int n = 1; n <= 8; n++) {
            WideWholes x = new WideWholes();
            int count = 120 - n;
            Due.due("feed " + count, Due.feedText(x, "0".repeat(count)), count);
            Due.due("and " + n, x.feed(0x3131313131313131L, n), 120);
            Due.due("the last byte is there", x.read(0, 2), 1);
            Due.dueSlot("the last bytes are there", x, 0, (1 << n) - 1);
            String tape = "0".repeat(118 - n) + "123";
            int more = n;
            House.refuses(tape, n + " bytes behind " + tape.length(), -5, y -> y.feed(0x3131313131313131L, more));
            House.refuses("0".repeat(118) + "12", n + " bytes behind 120", -5, y -> y.feed(0x3131313131313131L, more));
        }
    }

    private static void dueRead(String tape, int base, String want) {
        for (int s : new int[] {0, 23}) {
            WideWholes x = new WideWholes();
            Due.put(x, s, 99);
            Due.due("read of '" + tape + "' in base " + base, Due.readText(x, s, tape, base), 1);
            Due.dueSlot("read of '" + tape + "' in base " + base, x, s, want);
        }
    }

    private static void read() {
        Document.promise(4, "THE TAPE is a WHOLE in a base: a - in front as may be, then one DIGIT or more, nothing else; "
            + "the SLOT is that: 1.");
        dueRead("0", 10, "0");
        dueRead("7", 10, "7");
        dueRead("-7", 10, "-7");
        dueRead("-0", 10, "0");
        dueRead("-00012", 10, "-12");
        dueRead("1".repeat(120), 2, "2^120-1");
        dueRead("-" + "1".repeat(119), 2, "-2^119+1");
        dueRead("-zz", 36, "-1295");
        dueRead("-9223372036854775808", 10, "-9223372036854775808");
        dueRead("9223372036854775808", 10, "9223372036854775808");
        Document.promise(4, "BAD: SLOT, base;");
        House.slot("read: s", (x, s) -> x.read(s, 10));
        House.base("read: base", (x, base) -> x.read(0, base));
    }

    private static void readEmpties() {
        Document.promise(4, "It is empty then, right or not (not if BAD).");
        String[] tapes = {"12", "1x", "-", "f".repeat(96), "1" + "0".repeat(96)};
        int[] answers = {1, -11, -11, 1, -5};
        for (int i = 0; i < tapes.length; i++) {
            WideWholes x = new WideWholes();
            Due.due("read of '" + tapes[i] + "'", Due.readText(x, 0, tapes[i], 16), answers[i]);
            Due.due("empty then: read", x.read(1, 16), -10);
            Due.due("empty then: feed", x.feed('1', 1), 1);
        }
        for (int base : new int[] {1, 37}) {
            WideWholes x = new WideWholes();
            Due.due("read in base " + base, Due.readText(x, 0, "12", base), -1);
            Due.due("read of slot 24", x.read(24, 10), -1);
            Due.due("not if BAD: feed", x.feed('3', 1), 3);
            Due.due("not if BAD: read", x.read(0, 10), 1);
            Due.dueSlot("not if BAD", x, 0, 123);
        }
    }

    private static void readWrong() {
        Document.promise(4, "WRONG less the place of the first byte that can not stand there");
        String[] tapes = {"x1", "1x", "x", "--1", "1-", "12-34-", "-x", "-1x2x", "+1", " 1", "1 ", "A", "1A"};
        int[] places = {0, 1, 0, 1, 1, 2, 1, 2, 0, 0, 1, 0, 1};
        for (int i = 0; i < tapes.length; i++) {
            House.readRefuses(tapes[i], 10, -10 - places[i]);
        }
        House.readRefuses("1".repeat(119) + "2", 2, -10 - 119);
        House.readRefuses("-" + "1".repeat(118) + "-", 2, -10 - 119);
        House.readRefuses("1" + "-".repeat(119), 10, -11);
        House.readRefuses("2", 2, -10);
        House.readRefuses("z", 35, -10);
        House.readRefuses("\0", 36, -10);
        House.readRefuses("1\u00ff", 36, -11);
        Document.promise(4, "(at the end: how many it has);");
        House.readRefuses("", 10, -10);
        House.readRefuses("-", 10, -11);
        House.readRefuses("", 36, -10);
        House.readRefuses("-", 2, -11);
    }

    private static void readFull() {
        Document.promise(4, "FULL");
        BigInteger beyond = Due.L.add(BigInteger.ONE);
        // in base 8 and below L has more digits than the tape has bytes
        for (int base : new int[] {10, 16, 35, 36}) {
            dueRead(Due.L.toString(base), base, "L");
            dueRead(Due.L.negate().toString(base), base, "-L");
            House.readRefuses(beyond.toString(base), base, -5);
            House.readRefuses(beyond.negate().toString(base), base, -5);
        }
        dueRead("0".repeat(24) + "f".repeat(96), 16, "L");
        dueRead("-" + "0".repeat(23) + "f".repeat(96), 16, "-L");
        House.readRefuses("0".repeat(23) + "1" + "0".repeat(96), 16, -5);
        House.readRefuses("z".repeat(120), 36, -5);
        House.readRefuses("-" + "z".repeat(119), 36, -5);
    }

    private static void dueWrite(String value, int base, String want) {
        WideWholes x = Due.with(value);
        Due.due("write of " + value + " in base " + base, x.write(0, base), want.length());
        Due.due("write of " + value + " in base " + base, Due.outText(x, want.length()), want);
        Due.due("no byte behind", Due.outThrows(x, want.length()), true);
    }

    private static void write() {
        Document.promise(5, "OUT is the SLOT's WHOLE in a base: a - in front, if it is below 0, no 0 in front of others: "
            + "how many bytes.");
        dueWrite("0", 2, "0");
        dueWrite("0", 36, "0");
        dueWrite("1", 10, "1");
        dueWrite("-1", 10, "-1");
        dueWrite("35", 36, "z");
        dueWrite("-36", 36, "-10");
        dueWrite("4294967296", 16, "100000000");
        dueWrite("-9223372036854775808", 10, "-9223372036854775808");
        dueWrite("9223372036854775808", 10, "9223372036854775808");
        dueWrite("L", 2, "1".repeat(384));
        dueWrite("-L", 2, "-" + "1".repeat(384));
        dueWrite("2^383", 2, "1" + "0".repeat(383));
        for (int base = 2; base <= 36; base++) {
            dueWrite("L", base, Due.L.toString(base));
            dueWrite("-2^383", base, Due.two(383).negate().toString(base));
        }
    }

    private static void writeBad() {
        Document.promise(5, "BAD");
        House.slot("write: s", (x, s) -> x.write(s, 10));
        House.base("write: base", (x, base) -> x.write(0, base));
    }

    private static void out() {
        Document.promise(6, "Byte i of OUT.");
        WideWholes x = Due.with("-45", "7");
        Due.due("write", x.write(0, 10), 3);
        Due.due("the first", x.out(0), '-');
        Due.due("the middle", x.out(1), '4');
        Due.due("the last", x.out(2), '5');
        Due.put(x, 0, 8);
        Due.due("the SLOT is another one, OUT is not", Due.outText(x, 3), "-45");
        Due.due("write", x.write(1, 10), 1);
        Due.due("of the latest write()", x.out(0), '7');
        x = Due.with("-L");
        Due.due("the longest", x.write(0, 2), 385);
        Due.due("the first of the longest", x.out(0), '-');
        Due.due("the last of the longest", x.out(384), '1');
        Document.promise(6, "IndexOutOfBoundsException: it has none such.");
        Due.due("out(385) of 385", Due.outThrows(x, 385), true);
        Due.due("out(-1) of 385", Due.outThrows(x, -1), true);
        for (int i : new int[] {-1, 0, 1, Integer.MIN_VALUE, Integer.MAX_VALUE}) {
            Due.due("out(" + i + ") ahead of any write()", Due.outThrows(new WideWholes(), i), true);
        }
        for (int i : new int[] {-1, 9, 10, Integer.MIN_VALUE, Integer.MAX_VALUE}) {
            House.outRefuses(i);
        }
        x = Due.with("12345", "6");
        Due.due("write", x.write(0, 10), 5);
        Due.due("write", x.write(1, 10), 1);
        Due.due("out(1) where there was one once", Due.outThrows(x, 1), true);
    }

    private static void low() {
        Document.promise(7, "The lowest 64 BITS of a SLOT's WHOLE");
        String[] values = {"0", "-1", "9223372036854775807", "-9223372036854775808", "9223372036854775808",
            "-9223372036854775809", "2^64-1", "2^64", "-2^64", "-2^64-1", "2^64+5", "L", "-L", "2^383", "-2^383"};
        long[] wants = {0, -1, Long.MAX_VALUE, Long.MIN_VALUE, Long.MIN_VALUE, Long.MAX_VALUE, -1, 0, 0, -1, 5, -1, 1, 0, 0};
        for (int i = 0; i < values.length; i++) {
            Due.due("low of " + values[i], Due.with(values[i]).low(0), wants[i]);
        }
        WideWholes x = new WideWholes();
        x.set(23, 8);
        Due.due("low(23)", x.low(23), 8);
        Document.promise(7, "0: there is no such SLOT.");
        for (int s : new int[] {-1, 24, Integer.MIN_VALUE, Integer.MAX_VALUE}) {
            House.refuses("low(" + s + ")", 0, y -> y.low(s));
        }
    }

    private static void limbs() {
        Document.promise(8, "How many LIMBS a SLOT's WHOLE has");
        String[] values = {"9223372036854775808", "-9223372036854775809", "2^64-1", "-2^64+1", "2^64", "-2^64", "2^96-1",
            "2^96", "2^352-1", "2^352", "L", "-L"};
        int[] counts = {2, 2, 2, 2, 3, 3, 3, 4, 11, 12, 12, 12};
        for (int i = 0; i < values.length; i++) {
            Due.due("limbs of " + values[i], Due.with(values[i]).limbs(0), counts[i]);
        }
        Document.promise(8, "0: it is SHORT.");
        for (String value : new String[] {"0", "1", "-1", "2^32", "9223372036854775807", "-9223372036854775808"}) {
            Due.due("limbs of " + value, Due.with(value).limbs(0), 0);
        }
        WideWholes x = Due.with("L");
        Due.due("L less L", x.act(1, 0, 0, 0), 1);
        Due.due("limbs of L less L", x.limbs(0), 0);
        Document.promise(8, "BAD");
        House.slot("limbs: s", (y, s) -> y.limbs(s));
    }

    private static void limb() {
        Document.promise(9, "LIMB k of it, 0 .. 4294967295;");
        WideWholes x = Due.with("L", "-L", "2^383", "2^64-1");
        for (int k = 0; k <= 11; k++) {
            Due.due("limb " + k + " of L", x.limb(0, k), 4294967295L);
            Due.due("limb " + k + " of -L", x.limb(1, k), 4294967295L);
            Due.due("limb " + k + " of 2^383", x.limb(2, k), k < 11 ? 0 : 2147483648L);
            Due.due("limb " + k + " of 2^64 - 1", x.limb(3, k), k < 2 ? 4294967295L : 0);
        }
        Document.promise(9, "of a SHORT one likewise, as if it had LIMBS.");
        long[][] rows = {{0, 0, 0}, {1, 1, 0}, {-1, 1, 0}, {-6, 6, 0}, {4294967295L, 4294967295L, 0}, {4294967296L, 0, 1},
            {-4294967297L, 1, 1}, {Long.MAX_VALUE, 4294967295L, 2147483647L}, {Long.MIN_VALUE, 0, 2147483648L}};
        for (long[] row : rows) {
            Due.put(x, 0, row[0]);
            for (int k = 0; k <= 11; k++) {
                Due.due("limb " + k + " of " + row[0], x.limb(0, k), k < 2 ? row[k + 1] : 0);
            }
        }
        Document.promise(9, "0: there is none such.");
        for (int k : new int[] {-1, 12, 13, Integer.MIN_VALUE, Integer.MAX_VALUE}) {
            House.refuses("limb " + k + " of L", 0, y -> y.limb(House.L, k));
            House.refuses("limb " + k + " of 5", 0, y -> y.limb(House.FIVE, k));
        }
        Due.due("limb 4 of 2^128 - 1", Due.with("2^128-1").limb(0, 4), 0);
        for (int s : new int[] {-1, 24, Integer.MIN_VALUE, Integer.MAX_VALUE}) {
            House.refuses("limb(" + s + ", 0)", 0, y -> y.limb(s, 0));
        }
    }

    private static void compare() {
        Document.promise(10, "0 if a's WHOLE is below b's, 1 if they are like, 2 if it is above.");
        String[] rising = {"-L", "-L+1", "-2^64", "-2^64+1", "-9223372036854775809", "-9223372036854775808", "-4294967296",
            "-1", "0", "1", "4294967295", "4294967296", "9223372036854775807", "9223372036854775808", "2^64-1", "2^64",
            "2^383", "L-1", "L"};
        for (int a = 0; a < rising.length; a++) {
            for (int b = 0; b < rising.length; b++) {
                WideWholes x = Due.with(rising[a], rising[b]);
                Due.due("compare " + rising[a] + ", " + rising[b], x.compare(0, 1), a < b ? 0 : a == b ? 1 : 2);
            }
        }
        WideWholes x = Due.with("-5");
        Due.due("one with itself", x.compare(0, 0), 1);
        Due.due("-0", Due.readText(x, 1, "-0", 10), 1);
        Due.due("-0 and 0", x.compare(1, 2), 1);
        Document.promise(10, "BAD");
        House.slot("compare: a", (y, a) -> y.compare(a, 0));
        House.slot("compare: b", (y, b) -> y.compare(0, b));
    }
}
