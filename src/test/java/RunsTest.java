/** Promises 11 to 21: runs. */
public final class RunsTest {
    private static final int G = 4194304;
    private static final long TOP = 2147483648L;

    public static void main(String[] args) {
        sets();
        enters();
        exacts();
        roundings();
        products();
        cutToTheEnds();
        misses();
        numbersOut();
        rowCounts();
        worsts();
        worstsOfThen();
        aboves();
        fullProgram();
        Check.finish();
    }

    private static void sets() {
        BitTuner x = new BitTuner();
        x.input(-8192, 12288);
        x.fixed(0);
        x.work(7, 0, 0);
        Check.due("P11 low", x.set(0, -8192), 1);
        Check.due("P11 high", x.set(0, 12288), 1);
        Check.due("P11 stands", x.exact(0), 12288);
        Check.due("P11 above", x.set(0, 16384), -2);
        Check.due("P11 below", x.set(0, -12288), -2);
        Check.due("P11 no multiple", x.set(0, 4095), -2);
        Check.due("P11 no multiple below 0", x.set(0, -4095), -2);
        Check.due("P11 least int", x.set(0, Integer.MIN_VALUE), -2);
        Check.due("P11 fixed", x.set(1, 0), -2);
        Check.due("P11 worked", x.set(2, 0), -2);
        Check.due("P11 none", x.set(3, 0), -2);
        Check.due("P11 below 0", x.set(-1, 0), -2);
        Check.due("P11 stays", x.exact(0), 12288);
    }

    private static void enters() {
        BitTuner x = new BitTuner();
        x.input(-G, G);
        x.input(-65536, 65536);
        x.fixed(0);
        Check.due("P12 64", x.enter(0, 64.0), 1);
        Check.due("P12 64 stands", x.exact(0), G);
        Check.due("P12 -64", x.enter(0, -64.0), 1);
        Check.due("P12 -64 stands", x.exact(0), -G);
        Check.due("P12 a sixteenth", x.enter(0, -0.0625), 1);
        Check.due("P12 a sixteenth stands", x.exact(0), -4096);
        Check.due("P12 half a sixteenth", x.enter(0, 0.03125), -2);
        Check.due("P12 next above", x.enter(0, Math.nextUp(1.0)), -2);
        Check.due("P12 next below", x.enter(0, Math.nextDown(1.0)), -2);
        Check.due("P12 beyond", x.enter(0, 64.0625), -2);
        Check.due("P12 next beyond", x.enter(0, Math.nextUp(64.0)), -2);
        Check.due("P12 NaN", x.enter(0, Double.NaN), -2);
        Check.due("P12 endless", x.enter(0, Double.POSITIVE_INFINITY), -2);
        Check.due("P12 endless below", x.enter(0, Double.NEGATIVE_INFINITY), -2);
        Check.due("P12 greatest", x.enter(0, Double.MAX_VALUE), -2);
        Check.due("P12 2 to the 64", x.enter(0, 18446744073709551616.0), -2);
        Check.due("P12 smallest", x.enter(0, Double.MIN_VALUE), -2);
        Check.due("P12 refusals change nothing", x.exact(0), -4096);
        Check.due("P12 -0.0", x.enter(0, -0.0), 1);
        Check.due("P12 -0.0 stands", x.exact(0), 0);
        Check.due("P12 beyond its span", x.enter(1, 1.0625), -2);
        Check.due("P12 its end", x.enter(1, -1.0), 1);
        Check.due("P12 fixed", x.enter(2, 0.0), -2);
        Check.due("P12 none", x.enter(3, 0.0), -2);
        Check.due("P12 below 0", x.enter(-1, 0.0), -2);
    }

    private static void exactIs(int kind, int a, int b, long want) {
        BitTuner x = new BitTuner();
        x.input(-131072, 131072);
        x.input(-131072, 131072);
        x.set(0, a);
        x.set(1, b);
        x.work(kind, 0, kind <= 5 ? 1 : 0);
        Check.due("P13 kind " + kind + " of " + a + ", " + b, x.exact(2), want);
        Check.due("P14 kind " + kind + " of " + a + ", " + b, x.tuned(2), want);
    }

    private static void exacts() {
        exactIs(2, 4096, -12288, -8192);
        exactIs(3, 4096, -12288, 16384);
        exactIs(4, 4096, -12288, -768);
        exactIs(4, -4096, -4096, 256);
        exactIs(5, 4096, -12288, 4096);
        exactIs(5, -16384, -12288, -12288);
        exactIs(6, -12288, 0, 12288);
        exactIs(6, 12288, 0, 12288);
        exactIs(7, -12288, 0, -12288);
        BitTuner x = new BitTuner();
        x.input(0, 0);
        Check.due("P13 none", x.exact(1), Check.BAD_LONG);
        Check.due("P13 below 0", x.exact(-1), Check.BAD_LONG);
        Check.due("P14 none", x.tuned(1), Check.BAD_LONG);
        Check.due("P14 below 0", x.tuned(Integer.MIN_VALUE), Check.BAD_LONG);
    }

    private static void roundedIs(int units, int f, int rounding, long want) {
        BitTuner x = new BitTuner();
        x.fixed(units);
        x.work(7, 0, 0);
        x.bits(1, f);
        x.rounding(1, rounding);
        Check.due("P14 " + units + " to " + f + " bits, rounding " + rounding, x.tuned(1), want);
        Check.due("P13 rounding leaves it alone", x.exact(1), units);
        Check.due("P14 a FIXED is no rounded one", x.tuned(0), units);
    }

    private static void roundings() {
        roundedIs(98304, 0, 0, 65536);
        roundedIs(98304, 0, 1, 131072);
        roundedIs(98304, 0, 2, 65536);
        roundedIs(-98304, 0, 0, -131072);
        roundedIs(-98304, 0, 1, -65536);
        roundedIs(-98304, 0, 2, -65536);
        roundedIs(94208, 0, 1, 65536);
        roundedIs(-94208, 0, 1, -65536);
        roundedIs(-102400, 0, 1, -131072);
        roundedIs(-61440, 0, 2, 0);
        roundedIs(-4096, 3, 0, -8192);
        roundedIs(-4096, 3, 1, 0);
        roundedIs(4096, 3, 1, 8192);
        roundedIs(-4096, 4, 0, -4096);
        roundedIs(-131072, 0, 0, -131072);
        roundedIs(-131072, 0, 2, -131072);
        roundedIs(-G, 16, 1, -G);
    }

    private static void products() {
        BitTuner x = new BitTuner();
        x.fixed(4096);
        x.work(4, 0, 0);
        x.work(4, 1, 1);
        x.bits(2, 15);
        Check.due("P13 the finest", x.exact(2), 1);
        Check.due("P14 1 unit down", x.tuned(2), 0);
        x.rounding(2, 1);
        Check.due("P14 1 unit nearest", x.tuned(2), 2);
        x.bits(2, 16);
        x.work(7, 2, 0);
        x.bits(3, 15);
        x.rounding(3, 1);
        Check.due("P14 a copy of 1 unit nearest", x.tuned(3), 2);
        x.cut(3);
        x.fixed(-4096);
        x.work(4, 1, 3);
        x.bits(4, 9);
        Check.due("P14 -16 units down", x.tuned(4), -128);
        x.rounding(4, 2);
        Check.due("P14 -16 units toward 0", x.tuned(4), 0);
        x.rounding(4, 1);
        Check.due("P14 -16 units nearest", x.tuned(4), 0);
        x.bits(4, 11);
        Check.due("P14 -16 units of 32, the greater one", x.tuned(4), 0);
        x.bits(4, 12);
        Check.due("P14 -16 units of 16", x.tuned(4), -16);
        x.bits(1, 7);
        Check.due("P14 of a tuned part", x.tuned(4), 0);
        Check.due("P13 of an exact part", x.exact(4), -16);
    }

    /** The difference of a number and its rounded copy is EXACTLY 0, so it can be doubled without end. */
    private static BitTuner doubled(int units, int times) {
        BitTuner x = new BitTuner();
        x.fixed(units);
        x.work(7, 0, 0);
        x.bits(1, 0);
        x.work(3, 0, 1);
        for (int v = 2; v < 2 + times; v++) {
            x.work(2, v, v);
        }
        return x;
    }

    private static void cutToTheEnds() {
        BitTuner x = doubled(61440, 10);
        Check.due("P14 doubled", x.tuned(12), 61440L * 1024);
        x.work(4, 12, 12);
        Check.due("P14 cut to the greatest", x.tuned(13), TOP);
        Check.due("P13 all the while", x.exact(13), 0);
        Check.due("P15 the greatest miss", x.miss(13), TOP);
        Check.due("P9 bounds nothing", x.about(13, 9), 1073741824);
        x.work(3, 1, 13);
        Check.due("P14 less the greatest", x.tuned(14), -TOP);
        x.work(2, 14, 14);
        Check.due("P14 cut to the least", x.tuned(15), -TOP);
        Check.dueNumber("P16 the least", x.leave(15), -32768.0);
        Check.dueNumber("P17 the least", x.narrow(15), -32768.0);
        x.cut(14);
        x.work(4, 13, 13);
        Check.due("P14 the square of the greatest", x.tuned(14), TOP);
        x.rounding(14, 1);
        x.bits(14, 0);
        Check.due("P14 the square of the greatest, nearest", x.tuned(14), TOP);
        x.cut(14);
        x.work(3, 1, 13);
        x.work(4, 14, 13);
        Check.due("P14 the least product", x.tuned(15), -TOP);
        x.rounding(15, 2);
        Check.due("P14 the least product toward 0", x.tuned(15), -TOP);
    }

    private static void misses() {
        BitTuner x = new BitTuner();
        x.fixed(-4096);
        x.work(7, 0, 0);
        x.bits(1, 0);
        Check.due("P15 below", x.miss(1), 61440);
        x.rounding(1, 1);
        Check.due("P15 above", x.miss(1), 4096);
        Check.due("P15 of fixed", x.miss(0), 0);
        Check.due("P15 none", x.miss(2), Check.BAD_LONG);
        Check.due("P15 below 0", x.miss(-1), Check.BAD_LONG);
    }

    private static void numbersOut() {
        BitTuner x = new BitTuner();
        x.input(-G, G);
        x.enter(0, -2.5);
        Check.dueNumber("P16 -2.5", x.leave(0), -2.5);
        Check.dueNumber("P17 -2.5", x.narrow(0), -2.5);
        Check.dueNumber("P16 none", x.leave(1), 0.0);
        Check.dueNumber("P17 none", x.narrow(-1), 0.0);
        x.set(0, -4096);
        x.work(7, 0, 0);
        x.bits(1, 0);
        x.rounding(1, 2);
        Check.dueNumber("P16 no -0.0", x.leave(1), 0.0);
        Check.dueNumber("P17 no -0.0", x.narrow(1), 0.0);
        floatTies();
    }

    /** Sums of degree 4 reach 25 and 26 bits, where a float must round. */
    private static void floatTies() {
        BitTuner x = new BitTuner();
        x.fixed(4096);
        x.work(4, 0, 0);
        x.work(4, 1, 1);
        x.input(-G, G);
        x.work(2, 3, 3);
        x.work(2, 4, 4);
        x.work(2, 5, 5);
        x.set(3, 2097152);
        x.work(2, 6, 2);
        x.work(2, 7, 2);
        x.work(2, 8, 2);
        Check.dueNumber("P16 2^24 and 1", x.leave(7), 16777217 / 65536.0);
        Check.dueNumber("P17 2^24 and 1, even below", x.narrow(7), 16777216 / 65536.0);
        Check.dueNumber("P17 2^24 and 2", x.narrow(8), 16777218 / 65536.0);
        Check.dueNumber("P17 2^24 and 3, even above", x.narrow(9), 16777220 / 65536.0);
        x.set(3, 4194304);
        Check.dueNumber("P16 2^25 and 3", x.leave(9), 33554435 / 65536.0);
        Check.dueNumber("P17 2^25 and 1", x.narrow(7), 33554432 / 65536.0);
        Check.dueNumber("P17 2^25 and 2, even below", x.narrow(8), 33554432 / 65536.0);
        Check.dueNumber("P17 2^25 and 3", x.narrow(9), 33554436 / 65536.0);
        x.set(3, -2097152);
        x.work(3, 6, 2);
        Check.dueNumber("P17 -2^24 and -1", x.narrow(10), -16777216 / 65536.0);
    }

    private static void rowCounts() {
        BitTuner x = new BitTuner();
        x.fixed(0);
        Check.due("P18 no inputs", x.rows(), 1);
        x.input(4096, 4096);
        Check.due("P18 one value", x.rows(), 1);
        x.input(-4096, 4096);
        Check.due("P18 three", x.rows(), 3);
        x.input(0, 4096 * 999);
        Check.due("P18 3000", x.rows(), 3000);
        x.input(0, 4096 * 332);
        Check.due("P18 999000", x.rows(), 999000);
        x.input(0, 4096);
        Check.due("P18 above a million", x.rows(), 1000000);
        x.cut(2);
        x.input(0, 4096 * 999);
        x.input(0, 4096 * 999);
        Check.due("P18 a million", x.rows(), 1000000);
        for (int v = 4; v < 16; v++) {
            x.input(-G, G);
        }
        Check.due("P18 far above", x.rows(), 1000000);
    }

    private static void worsts() {
        BitTuner x = new BitTuner();
        x.fixed(4096);
        x.input(0, 65536);
        x.work(7, 1, 0);
        x.input(-8192, 8192);
        x.work(2, 2, 3);
        x.bits(2, 2);
        x.set(3, 4096);
        Check.due("P19 worst", x.worst(4), 12288);
        Check.due("P20 of the INPUT 1", x.worstAt(1), 12288);
        Check.due("P20 of the INPUT 3, first ROW", x.worstAt(3), -8192);
        Check.due("P20 of FIXED", x.worstAt(0), -2);
        Check.due("P20 of a worked one", x.worstAt(2), -2);
        Check.due("P20 of none", x.worstAt(5), -2);
        Check.due("P20 below 0", x.worstAt(-1), -2);
        Check.due("P20 16", x.worstAt(16), -2);
        Check.due("P20 far", x.worstAt(Integer.MAX_VALUE), -2);
        Check.due("P19 INPUTS stay", x.exact(3), 4096);
        Check.due("P19 INPUTS stay", x.exact(1), 0);
        Check.due("P19 none", x.worst(5), Check.BAD_LONG);
        Check.due("P19 below 0", x.worst(-1), Check.BAD_LONG);
        Check.due("P20 a refused one tells none", x.worstAt(1), 12288);
        Check.due("P19 of an INPUT", x.worst(1), 0);
        Check.due("P20 the first ROW", x.worstAt(1), 0);
        BitTuner y = new BitTuner();
        y.input(-8192, 8192);
        y.input(0, 8192);
        y.work(4, 0, 1);
        y.bits(2, 4);
        Check.due("P19 the first INPUT rises slowest", y.worst(2), 3840);
        Check.due("P20 first", y.worstAt(0), -4096);
        Check.due("P20 second", y.worstAt(1), 4096);
    }

    private static void worstsOfThen() {
        BitTuner x = new BitTuner();
        x.input(-4096, 4096);
        Check.due("P20 before any", x.worstAt(0), -2);
        x.input(-G, G);
        Check.due("P19 above 4000 ROWS", x.worst(0), Check.NOT_LONG);
        Check.due("P20 that told none", x.worstAt(0), -2);
        Check.due("P19 BAD ahead of NOT", x.worst(2), Check.BAD_LONG);
        x.cut(0);
        x.input(4096, 4096 * 1000);
        x.input(-4096, 8192);
        Check.due("P19 at 4000 ROWS", x.worst(0), 0);
        Check.due("P20 first", x.worstAt(0), 4096);
        Check.due("P20 second", x.worstAt(1), -4096);
        x.input(0, 4096);
        Check.due("P19 at 8000 ROWS", x.worst(0), Check.NOT_LONG);
        Check.due("P20 a later INPUT is none of then", x.worstAt(2), -2);
        x.cut(0);
        x.fixed(0);
        Check.due("P20 stays after a cut", x.worstAt(0), 4096);
        Check.due("P20 stays after a cut", x.worstAt(1), -4096);
        x.worst(0);
        Check.due("P20 of the latest", x.worstAt(0), -2);
        Check.due("P20 of the latest", x.worstAt(1), -2);
        x.cut(0);
        x.input(0, 4096 * 4);
        x.input(0, 4096 * 800);
        Check.due("P18 4005", x.rows(), 4005);
        Check.due("P19 above 4000 ROWS", x.worst(0), Check.NOT_LONG);
    }

    private static void aboves() {
        BitTuner x = new BitTuner();
        x.input(0, 65536);
        x.work(7, 0, 0);
        x.bits(1, 3);
        x.set(0, 8192);
        Check.due("P21 above 0", x.above(1, 0), 8);
        Check.due("P21 above 4095", x.above(1, 4095), 8);
        Check.due("P21 above 4096", x.above(1, 4096), 0);
        Check.due("P21 above -1", x.above(1, -1), 17);
        Check.due("P21 above the least", x.above(1, Long.MIN_VALUE), 17);
        Check.due("P21 above the greatest", x.above(1, Long.MAX_VALUE), 0);
        Check.due("P21 of an INPUT", x.above(0, 0), 0);
        Check.due("P21 none", x.above(2, 0), -2);
        Check.due("P21 below 0", x.above(-1, 0), -2);
        Check.due("P21 INPUTS stay", x.exact(0), 8192);
        Check.due("P21 tells no worst", x.worstAt(0), -2);
        x.input(0, 4096 * 2);
        Check.due("P21 all ROWS", x.above(1, 0), 24);
        x.input(0, 4096 * 1000);
        Check.due("P21 above 4000 ROWS", x.above(1, 0), -5);
        Check.due("P21 BAD ahead of NOT", x.above(4, 0), -2);
    }

    private static void fullProgram() {
        BitTuner x = new BitTuner();
        x.input(0, 12288);
        for (int v = 1; v < 15; v++) {
            x.work(7, v - 1, 0);
        }
        x.bits(14, 3);
        x.input(-4096, 4096);
        Check.due("P18 full", x.rows(), 12);
        Check.due("P19 full", x.worst(14), 4096);
        Check.due("P20 first", x.worstAt(0), 4096);
        Check.due("P20 last", x.worstAt(15), -4096);
        Check.due("P21 full", x.above(14, 0), 6);
        Check.due("P11 last", x.set(15, 4096), 1);
        Check.due("P13 last", x.exact(15), 4096);
        Check.due("P14 last", x.tuned(15), 4096);
        Check.dueNumber("P16 last", x.leave(15), 0.0625);
        Check.due("P15 beyond", x.miss(16), Check.BAD_LONG);
    }
}
