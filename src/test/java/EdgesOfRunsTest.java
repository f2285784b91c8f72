import java.util.function.Supplier;

/** The boundary cases of a RUN and of promises 11 to 21; one method for each sentence. */
public final class EdgesOfRunsTest {
    private static final int G = Made.G;
    private static final long TOP = 2147483648L;
    /** No VALUES of rich(), which has five. */
    private static final int[] NO_VALUES = {Integer.MIN_VALUE, -1, 5, 15, 16, Integer.MAX_VALUE};

    public static void main(String[] args) {
        eachLowAtFirst();
        allAreWorkedOut();
        firstRisesSlowest();
        sets();
        setOfNoInput();
        setOfNoSuchMultiple();
        enters();
        enterOfNoInput();
        enterOfNoNumber();
        enterOfNoSuchMultiple();
        exacts();
        tuneds();
        misses();
        leaves();
        narrows();
        narrowsAtTheEnds();
        rowsWithoutInputs();
        rowsOfAMillion();
        worsts();
        worstLeavesInputs();
        worstRefused();
        worstAtFirstRow();
        worstAtLatest();
        worstAtRefused();
        aboves();
        aboveRefused();
        Check.finish();
    }

    /** An INPUT of so many multiples (2049 at most), from 0 on where there is room for them. */
    private static int input(BitTuner x, int many) {
        int low = many > 1025 ? -G : 0;
        return x.input(low, low + 4096 * (many - 1));
    }

    private static BitTuner inputsOf(int... manies) {
        BitTuner x = new BitTuner();
        for (int many : manies) {
            input(x, many);
        }
        return x;
    }

    // ---- a RUN

    private static void eachLowAtFirst() {
        Sentence.is("A RUN: INPUTS are SET (each LOW at first);");
        BitTuner x = new BitTuner();
        x.input(-G, G);
        x.input(4096, 8192);
        x.input(G, G);
        Sentence.due("the lowest", x.exact(0), -G);
        Sentence.due("above 0", x.exact(1), 4096);
        Sentence.due("the highest", x.exact(2), G);
        x.set(0, 0);
        x.set(1, 8192);
        x.input(-4096, 4096);
        Sentence.due("one told later", x.exact(3), -4096);
        Sentence.due("one SET stays", x.exact(1), 8192);
        x.cut(1);
        x.input(4096, 8192);
        Sentence.due("a new one in its place", x.exact(1), 4096);
    }

    private static void allAreWorkedOut() {
        Sentence.is("all VALUES are worked out.");
        BitTuner x = Made.inputs(1);
        for (int v = 1; v < 16; v++) {
            x.work(7, v - 1, 0);
        }
        Sentence.due("the last one", x.exact(15), -4096);
        x.set(0, 4096);
        Sentence.due("the last one, exact", x.exact(15), 4096);
        Sentence.due("the last one, tuned", x.tuned(15), 4096);
    }

    private static void firstRisesSlowest() {
        Sentence.is("ROWS of INPUTS: all that can be, the first INPUT's values rising slowest.");
        BitTuner x = inputsOf(2, 2);
        x.work(2, 0, 1);
        x.bits(2, 3);
        // the sum is 4096, and missed, in the ROWS 0, 4096 and 4096, 0
        Sentence.due("above(2, 4095)", x.above(2, 4095), 2);
        Sentence.due("worst(2)", x.worst(2), 4096);
        Sentence.due("the first INPUT", x.worstAt(0), 0);
        Sentence.due("the second INPUT", x.worstAt(1), 4096);
        BitTuner y = inputsOf(3, 3, 3);
        y.work(2, 0, 1);
        y.work(2, 3, 2);
        y.bits(4, 2);
        // the sum is 12288 first in the ROW 0, 4096, 8192
        Sentence.due("worst(4)", y.worst(4), 12288);
        Sentence.due("the first of three", y.worstAt(0), 0);
        Sentence.due("the second of three", y.worstAt(1), 4096);
        Sentence.due("the third of three", y.worstAt(2), 8192);
        // sums of 6 steps and of 2 are missed by 8192 at least, too: of 2: 6 ROWS, of 3: 7, of 6: 1
        Sentence.due("all ROWS", y.above(4, 8191), 14);
        Sentence.due("every ROW", y.above(4, -1), 27);
    }

    // ---- promises 11, 12

    private static void sets() {
        Sentence.is("`int set(int v, int units)`: An INPUT is SET: 1.");
        BitTuner x = Made.rich();
        Sentence.due("LOW", x.set(0, -8192), 1);
        Sentence.due("it is LOW", x.exact(0), -8192);
        Sentence.due("HIGH", x.set(0, 12288), 1);
        Sentence.due("it is HIGH", x.exact(0), 12288);
        Sentence.due("the same again", x.set(0, 12288), 1);
        Sentence.due("another INPUT stays", x.exact(2), 4096);
        BitTuner y = new BitTuner();
        y.input(4096, 4096);
        Sentence.due("the only one", y.set(0, 4096), 1);
        BitTuner z = Made.inputs(16);
        Sentence.due("the last INPUT that can be", z.set(15, 4096), 1);
        Sentence.due("it is SET", z.exact(15), 4096);
    }

    private static void setOfNoInput() {
        Sentence.is("BAD: no INPUT, not a multiple of 4096 of its SPAN.");
        Sentence.refused(Made::rich, "a FIXED", x -> x.set(1, 20480), -2);
        Sentence.refused(Made::rich, "a SUM", x -> x.set(3, 12288), -2);
        Sentence.refused(Made::rich, "a TIMES", x -> x.set(4, 0), -2);
        for (int v : NO_VALUES) {
            Sentence.refused(Made::rich, "VALUE " + v, x -> x.set(v, 0), -2);
        }
        BitTuner x = Made.rich();
        x.cut(2);
        Sentence.due("an INPUT that is gone", x.set(2, 0), -2);
    }

    private static void setOfNoSuchMultiple() {
        Sentence.is("not a multiple of 4096 of its SPAN.");
        int[] refused = {-12288, -8193, -8191, -4097, -4095, -2048, -1, 1, 2048, 4095, 4097, 12287, 12289, 16384,
            Integer.MIN_VALUE, -2147479552, 2147479552, Integer.MAX_VALUE};
        for (int units : refused) {
            Sentence.refused(Made::rich, "set(0, " + units + ")", x -> x.set(0, units), -2);
        }
        Sentence.refused(() -> inputsOf(1), "above the only one", x -> x.set(0, 4096), -2);
        Sentence.refused(() -> inputsOf(1), "below the only one", x -> x.set(0, -4096), -2);
    }

    private static void enterIs(double number, long units) {
        BitTuner x = new BitTuner();
        x.input(-G, G);
        Sentence.due("enter " + number, x.enter(0, number), 1);
        Sentence.due(number + " in UNITS", x.exact(0), units);
    }

    private static void enters() {
        Sentence.is("`int enter(int v, double number)`: An INPUT is SET to a number: 1.");
        enterIs(0.0, 0);
        enterIs(-0.0, 0);
        enterIs(0.0625, 4096);
        enterIs(-0.0625, -4096);
        enterIs(63.9375, G - 4096);
        enterIs(64.0, G);
        enterIs(-63.9375, -G + 4096);
        enterIs(-64.0, -G);
        BitTuner x = Made.rich();
        Sentence.due("LOW", x.enter(0, -0.125), 1);
        Sentence.due("it is LOW", x.exact(0), -8192);
        Sentence.due("HIGH", x.enter(0, 0.1875), 1);
        Sentence.due("it is HIGH", x.exact(0), 12288);
        Sentence.due("another INPUT stays", x.exact(2), 4096);
    }

    private static void enterOfNoInput() {
        Sentence.is("BAD: no INPUT; what is no number, or no such multiple.");
        Sentence.refused(Made::rich, "a FIXED", x -> x.enter(1, 0.3125), -2);
        Sentence.refused(Made::rich, "a SUM", x -> x.enter(3, 0.1875), -2);
        Sentence.refused(Made::rich, "a TIMES", x -> x.enter(4, 0.0), -2);
        for (int v : NO_VALUES) {
            Sentence.refused(Made::rich, "VALUE " + v, x -> x.enter(v, 0.0), -2);
            Sentence.refused(Made::rich, "VALUE " + v + " and no number", x -> x.enter(v, Double.NaN), -2);
        }
    }

    private static BitTuner widestInput() {
        BitTuner x = new BitTuner();
        x.input(-G, G);
        x.set(0, 4096);
        return x;
    }

    private static void enterRefused(double number) {
        Sentence.refused(EdgesOfRunsTest::widestInput, "enter(0, " + number + ")", x -> x.enter(0, number), -2);
        Sentence.refused(EdgesOfRunsTest::widestInput, "enter(0, " + -number + ")", x -> x.enter(0, -number), -2);
    }

    private static void enterOfNoNumber() {
        Sentence.is("what is no number,");
        enterRefused(Double.NaN);
        enterRefused(Double.longBitsToDouble(0x7ff0000000000001L));
        enterRefused(Double.longBitsToDouble(0x7fffffffffffffffL));
        enterRefused(Double.POSITIVE_INFINITY);
    }

    private static void enterOfNoSuchMultiple() {
        Sentence.is("or no such multiple.");
        double[] between = {Double.MIN_VALUE, Double.MIN_NORMAL, 1.0 / 65536, 0.03125, Math.nextDown(0.0625),
            Math.nextUp(0.0625), 0.1, Math.nextDown(1.0), Math.nextUp(1.0), Math.nextDown(64.0)};
        double[] beyond = {Math.nextUp(64.0), 64.0625, 65.0, 128.0, 4096.0};
        // these would come back to 0 if UNITS, or steps of 4096, were wrapped in 32 or 64 bits
        double[] wrapped = {65536.0, 268435456.0, 4294967296.0, 281474976710656.0, 1152921504606846976.0,
            18446744073709551616.0, 1e300, Double.MAX_VALUE};
        for (double[] numbers : new double[][] {between, beyond, wrapped}) {
            for (double number : numbers) {
                enterRefused(number);
            }
        }
        for (double number : new double[] {-0.1875, Math.nextDown(-0.125), Math.nextUp(0.1875), 0.25, 64.0, -64.0}) {
            Sentence.refused(Made::rich, "beyond its SPAN, " + number, x -> x.enter(0, number), -2);
        }
    }

    // ---- promises 13 to 17

    private static void exacts() {
        Sentence.is("`long exact(int v)`: What a VALUE is EXACTLY, with INPUTS as SET, in UNITS. BAD.");
        BitTuner x = Made.rich();
        Sentence.due("the first", x.exact(0), 8192);
        Sentence.due("the last", x.exact(4), 28672 / 16);
        x.set(0, -8192);
        Sentence.due("SET to LOW", x.exact(4), 12288 / 16);
        x.set(0, 12288);
        Sentence.due("SET to HIGH", x.exact(4), 32768 / 16);
        for (int v : NO_VALUES) {
            Sentence.refused(Made::rich, "exact(" + v + ")", y -> y.exact(v), Check.BAD_LONG);
        }
        Sentence.due("of 16", Made.full().exact(15), 8192);
        Sentence.refused(Made::full, "one more", y -> y.exact(16), Check.BAD_LONG);
    }

    private static void tuneds() {
        Sentence.is("`long tuned(int v)`: What it is TUNED, in UNITS. BAD.");
        BitTuner x = Made.rich();
        Sentence.due("the first", x.tuned(0), 8192);
        // 28672 is as near to 24576 as to 32768
        Sentence.due("SUM", x.tuned(3), 32768);
        Sentence.due("TIMES", x.tuned(4), 2048);
        for (int v : NO_VALUES) {
            Sentence.refused(Made::rich, "tuned(" + v + ")", y -> y.tuned(v), Check.BAD_LONG);
        }
        Sentence.due("of 16", Made.full().tuned(15), 8192);
        Sentence.refused(Made::full, "one more", y -> y.tuned(16), Check.BAD_LONG);
    }

    private static void misses() {
        Sentence.is("`long miss(int v)`: The MISS. BAD.");
        BitTuner x = Made.rich();
        Sentence.due("INPUT", x.miss(0), 0);
        Sentence.due("FIXED", x.miss(1), 0);
        Sentence.due("SUM", x.miss(3), 4096);
        Sentence.due("TIMES", x.miss(4), 256);
        for (int v : NO_VALUES) {
            Sentence.refused(Made::rich, "miss(" + v + ")", y -> y.miss(v), Check.BAD_LONG);
        }
        Sentence.due("of 16", Made.full().miss(15), 0);
        Sentence.refused(Made::full, "one more", y -> y.miss(16), Check.BAD_LONG);
    }

    private static void leaves() {
        Sentence.is("`double leave(int v)`: TUNED as a number; 0 for BAD.");
        BitTuner x = new BitTuner();
        int unit = Made.unit(x);
        int none = x.work(3, 0, 0);
        int minus = x.work(3, none, unit);
        Sentence.dueNumber("1 UNIT", x.leave(unit), 1 / 65536.0);
        Sentence.dueNumber("-1 UNIT", x.leave(minus), -1 / 65536.0);
        Sentence.dueNumber("0", x.leave(none), 0.0);
        int copy = x.work(7, minus, 0);
        x.bits(copy, 0);
        x.rounding(copy, 2);
        Sentence.dueNumber("0, from below, has no sign", x.leave(copy), 0.0);
        Sentence.dueNumber("TUNED, not EXACT", Made.rich().leave(4), 0.03125);
        Sentence.dueNumber("the top", Made.atTheEnd(false).leave(9), 32768.0);
        Sentence.dueNumber("the ground", Made.atTheEnd(true).leave(9), -32768.0);
        for (int v : NO_VALUES) {
            Sentence.refused(Made::rich, "leave(" + v + ")", y -> Double.doubleToRawLongBits(y.leave(v)), 0);
        }
        Sentence.dueNumber("of 16", Made.full().leave(15), 0.125);
        Sentence.dueNumber("one more", Made.full().leave(16), 0.0);
    }

    /** VALUE 2 is 2^24 UNITS (of an INPUT that may be SET otherwise), VALUE 5 is 1 UNIT, 6 is 2, 7 is 3. */
    private static BitTuner longNumbers(int units) {
        BitTuner x = new BitTuner();
        x.fixed(units);
        x.work(2, 0, 0);
        x.work(2, 1, 1);
        Made.unit(x);
        x.work(2, 5, 5);
        x.work(2, 6, 5);
        return x;
    }

    private static void narrowIs(int units, int kind, int part, long tuned, long want) {
        BitTuner x = longNumbers(units);
        int v = x.work(kind, 2, part);
        Sentence.due("TUNED", x.tuned(v), tuned);
        Sentence.dueNumber(tuned + " UNITS, narrow", x.narrow(v), want / 65536.0);
        Sentence.dueNumber(tuned + " UNITS, leave", x.leave(v), tuned / 65536.0);
    }

    private static void narrows() {
        Sentence.is("`float narrow(int v)`: TUNED as the nearest float (of two as near that with an even last bit);"
                + " 0 for BAD.");
        narrowIs(G, 3, 5, 16777215, 16777215);
        narrowIs(G, 2, 5, 16777217, 16777216);
        narrowIs(G, 2, 6, 16777218, 16777218);
        narrowIs(G, 2, 7, 16777219, 16777220);
        narrowIs(-G, 2, 5, -16777215, -16777215);
        narrowIs(-G, 3, 5, -16777217, -16777216);
        narrowIs(-G, 3, 6, -16777218, -16777218);
        narrowIs(-G, 3, 7, -16777219, -16777220);
        for (int v : NO_VALUES) {
            Sentence.refused(Made::rich, "narrow(" + v + ")", y -> Float.floatToRawIntBits(y.narrow(v)), 0);
        }
        Sentence.dueNumber("TUNED, not EXACT", Made.rich().narrow(4), 0.03125);
        Sentence.dueNumber("of 16", Made.full().narrow(15), 0.125);
        Sentence.dueNumber("one more", Made.full().narrow(16), 0.0);
        BitTuner x = new BitTuner();
        int unit = Made.unit(x);
        Sentence.dueNumber("1 UNIT", x.narrow(unit), 1 / 65536.0);
        int copy = x.work(7, x.work(3, x.work(3, 0, 0), unit), 0);
        x.bits(copy, 0);
        x.rounding(copy, 2);
        Sentence.dueNumber("0, from below, has no sign", x.narrow(copy), 0.0);
    }

    /** Near the ends floats lie 128 UNITS apart (256 beyond, where TUNED does not reach). */
    private static void narrowsAtTheEnds() {
        Sentence.is("TUNED as the nearest float (of two as near that with an even last bit);");
        for (int side = -1; side <= 1; side += 2) {
            BitTuner x = new BitTuner();
            Made.away(x, 32768, side < 0);
            x.fixed(G);
            x.work(4, 2, 3);
            x.work(4, 4, 3);
            x.work(4, 5, 3);
            int unit = Made.unit(x);
            x.fixed(side * 16384);
            x.work(4, 8, 10);
            int tie = x.work(3, 6, 11);
            int inward = x.work(side > 0 ? 3 : 2, tie, unit);
            int next = x.work(3, tie, 11);
            int nextTie = x.work(3, next, 11);
            Sentence.dueNumber("the end", x.narrow(6), side * 32768.0);
            Sentence.due("64 UNITS from the end", x.tuned(tie), side * (TOP - 64));
            Sentence.dueNumber("64 UNITS from the end", x.narrow(tie), side * 32768.0);
            Sentence.dueNumber("65 UNITS from the end", x.narrow(inward), side * (TOP - 128) / 65536.0);
            Sentence.dueNumber("128 UNITS from the end", x.narrow(next), side * (TOP - 128) / 65536.0);
            Sentence.dueNumber("192 UNITS from the end", x.narrow(nextTie), side * (TOP - 256) / 65536.0);
            Sentence.dueNumber("192 UNITS, leave", x.leave(nextTie), side * (TOP - 192) / 65536.0);
        }
    }

    // ---- promises 18 to 21

    private static void rowsWithoutInputs() {
        Sentence.is("`int rows()`: How many ROWS there are (1 without INPUTS);");
        BitTuner x = new BitTuner();
        Sentence.due("of none", x.rows(), 1);
        x.fixed(G);
        x.work(7, 0, 0);
        Sentence.due("without INPUTS", x.rows(), 1);
        input(x, 1);
        Sentence.due("an INPUT of one", x.rows(), 1);
        input(x, 2);
        Sentence.due("an INPUT of two", x.rows(), 2);
        x.input(-G, G);
        Sentence.due("the widest INPUT", x.rows(), 2 * 2049);
        Sentence.due("16 INPUTS of three, cut", Made.inputs(16).rows(), 1000000);
        BitTuner y = new BitTuner();
        for (int v = 0; v < 16; v++) {
            input(y, 2);
        }
        Sentence.due("16 INPUTS of two", y.rows(), 65536);
    }

    private static void rowsOfAMillion() {
        Sentence.is("1000000 for more.");
        Sentence.due("999999", inputsOf(999, 1001).rows(), 999999);
        Sentence.due("1000000", inputsOf(1000, 1000).rows(), 1000000);
        Sentence.due("1000004", inputsOf(212, 53, 89).rows(), 1000000);
        Sentence.due("1000000 and an INPUT of one", inputsOf(1000, 1000, 1).rows(), 1000000);
        Sentence.due("1000000 and an INPUT of two", inputsOf(1000, 1000, 2).rows(), 1000000);
        BitTuner x = new BitTuner();
        for (int v = 0; v < 16; v++) {
            x.input(-G, G);
        }
        Sentence.due("the most", x.rows(), 1000000);
        // wrapped in 64 bits, or in 32, these would be 0
        BitTuner y = inputsOf(2048, 2048, 2048, 2048, 2048, 2048);
        Sentence.due("2^66", y.rows(), 1000000);
        y.cut(3);
        Sentence.due("2^33", y.rows(), 1000000);
        Sentence.due("2^32", inputsOf(2048, 2048, 1024).rows(), 1000000);
        Sentence.refused(() -> inputsOf(2048, 2048, 1024), "worst(0) of 2^32", z -> z.worst(0), Check.NOT_LONG);
        Sentence.refused(() -> inputsOf(2048, 2048, 1024), "above(0, 0) of 2^32", z -> z.above(0, 0), -5);
    }

    private static void worsts() {
        Sentence.is("`long worst(int v)`: The greatest MISS of a VALUE over all ROWS");
        BitTuner x = new BitTuner();
        x.fixed(4096);
        x.work(7, 0, 0);
        x.bits(1, 0);
        Sentence.due("of the only ROW, without INPUTS", x.worst(1), 4096);
        Sentence.due("of a FIXED", x.worst(0), 0);
        BitTuner y = inputsOf(17);
        y.work(7, 0, 0);
        Sentence.due("nothing is missed", y.worst(1), 0);
        y.bits(1, 0);
        Sentence.due("in the last ROW but one", y.worst(1), 61440);
        y.rounding(1, 1);
        Sentence.due("in the middle", y.worst(1), 32768);
        BitTuner z = inputsOf(16);
        z.work(7, 0, 0);
        z.bits(1, 0);
        Sentence.due("in the last ROW", z.worst(1), 61440);
        Sentence.due("the last ROW", z.worstAt(0), 61440);
        BitTuner first = new BitTuner();
        first.input(-4096, 4096);
        first.work(7, 0, 0);
        first.bits(1, 0);
        Sentence.due("in the first ROW", first.worst(1), 61440);
        Sentence.due("the first ROW", first.worstAt(0), -4096);
        Sentence.due("at the end", Made.atTheEnd(true).worst(9), TOP);
    }

    private static void worstLeavesInputs() {
        Sentence.is("(INPUTS stay as SET).");
        BitTuner x = Made.rich();
        x.worst(4);
        Sentence.due("the first INPUT", x.exact(0), 8192);
        Sentence.due("the second INPUT", x.exact(2), 4096);
        Sentence.due("what is worked out", x.exact(4), 28672 / 16);
        x.above(4, 0);
        Sentence.due("the first INPUT, after above()", x.exact(0), 8192);
        Sentence.due("the second INPUT, after above()", x.exact(2), 4096);
        // the MISS as SET has no share in the ROWS
        BitTuner y = inputsOf(2);
        y.work(7, 0, 0);
        y.bits(1, 0);
        y.set(0, 4096);
        Sentence.due("the worst", y.worst(1), 4096);
        Sentence.due("where it was", y.worstAt(0), 4096);
    }

    private static void worstRefused() {
        Sentence.is("(INPUTS stay as SET). BAD; NOT: above 4000 ROWS.");
        Sentence.due("2049 ROWS", inputsOf(2049).worst(0), 0);
        Sentence.due("3999 ROWS", inputsOf(93, 43).worst(1), 0);
        Sentence.due("4000 ROWS", inputsOf(2000, 2).worst(1), 0);
        Sentence.refused(() -> inputsOf(2001, 2), "4002 ROWS", x -> x.worst(1), Check.NOT_LONG);
        Sentence.refused(() -> inputsOf(2, 2001), "4002 ROWS, of an INPUT of two", x -> x.worst(0), Check.NOT_LONG);
        Sentence.refused(Made::manyRows, "an earlier worst() stays", x -> x.worst(4), Check.NOT_LONG);
        for (int v : NO_VALUES) {
            Sentence.refused(Made::rich, "worst(" + v + ")", x -> x.worst(v), Check.BAD_LONG);
        }
        Sentence.refused(Made::manyRows, "BAD, too many ROWS too", x -> x.worst(6), Check.BAD_LONG);
        Sentence.refused(Made::manyRows, "BAD below, too many ROWS too", x -> x.worst(-1), Check.BAD_LONG);
        BitTuner x = inputsOf(2001, 2);
        x.cut(1);
        Sentence.due("few again after a cut", x.worst(0), 0);
    }

    private static void worstAtFirstRow() {
        Sentence.is("`int worstAt(int i)`: What INPUT i was in the first ROW with that MISS,");
        BitTuner x = inputsOf(17);
        x.work(7, 0, 0);
        x.worst(1);
        Sentence.due("no MISS at all: the first ROW of all", x.worstAt(0), 0);
        x.bits(1, 3);
        Sentence.due("worst(1)", x.worst(1), 4096);
        Sentence.due("the first of eight like ones", x.worstAt(0), 4096);
        BitTuner y = new BitTuner();
        y.fixed(0);
        y.input(-8192, 8192);
        y.work(6, 1, 0);
        y.input(-4096, 4096);
        y.bits(2, 3);
        Sentence.due("worst(2)", y.worst(2), 4096);
        // INPUT i is the INPUT of that number: promise 2 tells it
        Sentence.due("INPUT 1", y.worstAt(1), -4096);
        Sentence.due("INPUT 3, behind the VALUE", y.worstAt(3), -4096);
        Sentence.due("no INPUT 0", y.worstAt(0), -2);
    }

    private static void worstAtLatest() {
        Sentence.is("of the latest worst() that told one.");
        BitTuner x = inputsOf(16);
        x.work(7, 0, 0);
        x.bits(1, 0);
        x.worst(1);
        Sentence.due("the first", x.worstAt(0), 61440);
        Sentence.due("the same again", x.worstAt(0), 61440);
        x.worst(2);
        Sentence.due("a BAD one told none", x.worstAt(0), 61440);
        x.set(0, 4096);
        x.above(1, 4096);
        x.bits(1, 16);
        x.least(1, 0);
        Sentence.due("other calls told none", x.worstAt(0), 61440);
        input(x, 2000);
        x.worst(1);
        Sentence.due("a refused one told none", x.worstAt(0), 61440);
        x.cut(2);
        x.worst(1);
        Sentence.due("the latest", x.worstAt(0), 0);
        x.cut(0);
        Sentence.due("its INPUT is gone, it was one then", x.worstAt(0), 0);
        x.input(8192, 8192);
        Sentence.due("another INPUT in its place", x.worstAt(0), 0);
        x.worst(0);
        Sentence.due("the other one's own", x.worstAt(0), 8192);
        x.cut(0);
        x.fixed(0);
        x.worst(0);
        Sentence.due("one without INPUTS", x.worstAt(0), -2);
    }

    private static void worstAtRefused() {
        Sentence.is("BAD: also before any; no INPUT of then.");
        Sentence.refused(() -> inputsOf(2, 2), "before any", x -> x.worstAt(0), -2);
        Supplier<BitTuner> refusedOnes = () -> {
            BitTuner x = inputsOf(2001, 2);
            x.worst(0);
            x.worst(2);
            return x;
        };
        Sentence.refused(refusedOnes, "before any that told one", x -> x.worstAt(0), -2);
        for (int i : new int[] {Integer.MIN_VALUE, -1, 1, 3, 4, 5, 15, 16, 17, Integer.MAX_VALUE}) {
            Sentence.refused(Made::rich, "no INPUT " + i, x -> x.worstAt(i), -2);
        }
        Sentence.refused(Made::manyRows, "an INPUT told later", x -> x.worstAt(5), -2);
        Supplier<BitTuner> replaced = () -> {
            BitTuner x = Made.rich();
            x.cut(1);
            x.input(0, 4096);
            return x;
        };
        Sentence.refused(replaced, "an INPUT in a FIXED one's place", x -> x.worstAt(1), -2);
        BitTuner sixteen = new BitTuner();
        for (int v = 0; v < 16; v++) {
            sixteen.input(v * 4096, v * 4096);
        }
        sixteen.worst(0);
        Sentence.due("the first of 16 INPUTS", sixteen.worstAt(0), 0);
        Sentence.due("the last of 16 INPUTS", sixteen.worstAt(15), 61440);
        Sentence.due("one more", sixteen.worstAt(16), -2);
    }

    private static void aboves() {
        Sentence.is("`int above(int v, long m)`: In how many ROWS the MISS of a VALUE is above m.");
        BitTuner x = inputsOf(17);
        x.work(7, 0, 0);
        x.bits(1, 2);
        // the MISSES are 0, 4096, 8192, 12288 four times, then 0
        long[][] dues = {{Long.MIN_VALUE, 17}, {-1, 17}, {0, 12}, {1, 12}, {4095, 12}, {4096, 8}, {8191, 8}, {8192, 4},
            {12287, 4}, {12288, 0}, {12289, 0}, {Long.MAX_VALUE, 0}};
        for (long[] due : dues) {
            Sentence.due("above " + due[0], x.above(1, due[0]), due[1]);
        }
        Sentence.due("an INPUT", x.above(0, 0), 0);
        BitTuner y = Made.atTheEnd(true);
        Sentence.due("above 2147483647", y.above(9, TOP - 1), 1);
        Sentence.due("above 2147483648", y.above(9, TOP), 0);
        Sentence.due("above 2^32, which is 0 in 32 bits", y.above(9, 1L << 32), 0);
    }

    private static void aboveRefused() {
        Sentence.is("the MISS of a VALUE is above m. BAD; NOT: above 4000 ROWS.");
        Sentence.due("4000 ROWS", inputsOf(2000, 2).above(1, -1), 4000);
        Sentence.refused(() -> inputsOf(2001, 2), "4002 ROWS", x -> x.above(1, -1), -5);
        for (int v : NO_VALUES) {
            Sentence.refused(Made::rich, "above(" + v + ", 0)", x -> x.above(v, 0), -2);
        }
        Sentence.refused(Made::manyRows, "NOT", x -> x.above(4, 0), -5);
        Sentence.refused(Made::manyRows, "BAD, too many ROWS too", x -> x.above(6, 0), -2);
    }
}
