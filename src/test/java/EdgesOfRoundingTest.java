/** The boundary cases of "Terms", part 2: BITS, ROUNDING, WEIGHT, TUNED, MISS; one method for each sentence. */
public final class EdgesOfRoundingTest {
    private static final int DOWN = 0, NEAREST = 1, TOWARD_ZERO = 2;
    private static final long TOP = 2147483648L;

    public static void main(String[] args) {
        unitsAreSixteenBroken();
        bitsFromZeroToSixteen();
        roundingsFromZeroToTwo();
        weightsFromZeroToHundred();
        nextUpAndDown();
        halvesGoUp();
        tunedOfGivenOnes();
        workOnTunedParts();
        wholeProducts();
        cutAtTheTop();
        cutAtTheGround();
        missWithoutSign();
        Check.finish();
    }

    /** VALUE 1 of a new program: a COPY of INPUT 0. */
    private static BitTuner copy() {
        BitTuner x = new BitTuner();
        x.input(-Made.G, Made.G);
        x.work(7, 0, 0);
        return x;
    }

    private static void bitsFromZeroToSixteen() {
        Sentence.is("A VALUE has BITS f (0 to 16; 16 at first),");
        for (int kind = 2; kind <= 7; kind++) {
            BitTuner x = Made.inputs(1);
            x.work(kind, 0, 0);
            Sentence.due("at first, kind " + kind, x.about(1, 4), 16);
        }
        BitTuner x = copy();
        for (int f = 0; f <= 16; f++) {
            Sentence.due("bits " + f, x.bits(1, f), f == 0 ? 16 : f - 1);
            Sentence.due("they are " + f, x.about(1, 4), f);
        }
        Sentence.refused(Made::rich, "bits 17", y -> y.bits(3, 17), -2);
        Sentence.refused(Made::rich, "bits -1", y -> y.bits(3, -1), -2);
        for (int far : Made.FAR_INTS) {
            Sentence.refused(Made::rich, "bits " + far, y -> y.bits(3, far), -2);
        }
    }

    private static void roundingsFromZeroToTwo() {
        Sentence.is("a ROUNDING (0 DOWN, at first, 1 NEAREST, of two as near the greater one, 2 TOWARD 0)");
        for (int kind = 2; kind <= 7; kind++) {
            BitTuner x = Made.inputs(1);
            x.work(kind, 0, 0);
            Sentence.due("at first, kind " + kind, x.about(1, 5), 0);
        }
        BitTuner x = copy();
        for (int rounding = 0; rounding <= 2; rounding++) {
            Sentence.due("rounding " + rounding, x.rounding(1, rounding), rounding == 0 ? 0 : rounding - 1);
            Sentence.due("it is " + rounding, x.about(1, 5), rounding);
        }
        Sentence.refused(Made::rich, "rounding 3", y -> y.rounding(3, 3), -2);
        Sentence.refused(Made::rich, "rounding -1", y -> y.rounding(3, -1), -2);
        for (int far : Made.FAR_INTS) {
            Sentence.refused(Made::rich, "rounding " + far, y -> y.rounding(3, far), -2);
        }
    }

    private static void weightsFromZeroToHundred() {
        Sentence.is("and a WEIGHT (0 to 100; 1 at first).");
        for (int kind = 2; kind <= 7; kind++) {
            BitTuner x = Made.inputs(1);
            x.work(kind, 0, 0);
            Sentence.due("at first, kind " + kind, x.about(1, 6), 1);
        }
        BitTuner x = copy();
        for (int weight = 0; weight <= 100; weight++) {
            Sentence.due("weight " + weight, x.weight(1, weight), weight == 0 ? 1 : weight - 1);
            Sentence.due("it is " + weight, x.about(1, 6), weight);
        }
        Sentence.refused(Made::rich, "weight 101", y -> y.weight(3, 101), -2);
        Sentence.refused(Made::rich, "weight -1", y -> y.weight(3, -1), -2);
        for (int far : Made.FAR_INTS) {
            Sentence.refused(Made::rich, "weight " + far, y -> y.weight(3, far), -2);
        }
    }

    private static void unitsAreSixteenBroken() {
        Sentence.is("Numbers are told in UNITS: whole multiples of 1 / 65536.");
        BitTuner x = new BitTuner();
        int unit = Made.unit(x);
        Sentence.due("the least number in UNITS", x.exact(unit), 1);
        Sentence.dueNumber("the least number", x.leave(unit), 1.0 / 65536);
        Sentence.due("1 in UNITS", x.input(65536, 65536), 3);
        Sentence.due("1 as a number", x.enter(3, 1.0), 1);
        Sentence.dueNumber("1 is 65536 UNITS", x.leave(3), 1.0);
    }

    /** What a COPY of VALUE part is TUNED. */
    private static void copyIs(BitTuner x, int part, int f, int rounding, long want) {
        int v = x.work(7, part, 0);
        x.bits(v, f);
        x.rounding(v, rounding);
        Sentence.due(x.exact(part) + " UNITS, " + f + " BITS, ROUNDING " + rounding, x.tuned(v), want);
        x.cut(v);
    }

    /** 65535 UNITS have all 16 broken bits set: each f takes away all below U. */
    private static void nextUpAndDown() {
        Sentence.is("With U being 65536 by 2^f UNITS:");
        for (int f = 0; f <= 16; f++) {
            long u = 65536 / (1 << f);
            BitTuner x = new BitTuner();
            int unit = Made.unit(x);
            int one = x.fixed(65536);
            int above = x.work(3, one, unit);
            int below = x.work(3, unit, one);
            copyIs(x, above, f, DOWN, 65536 - u);
            copyIs(x, above, f, TOWARD_ZERO, 65536 - u);
            copyIs(x, above, f, NEAREST, f == 16 ? 65535 : 65536);
            copyIs(x, below, f, DOWN, f == 16 ? -65535 : -65536);
            copyIs(x, below, f, TOWARD_ZERO, -65536 + u);
            // with 15 BITS -65536 and -65534 are as near
            copyIs(x, below, f, NEAREST, f == 16 ? -65535 : f == 15 ? -65534 : -65536);
            for (int rounding = 0; rounding <= 2; rounding++) {
                copyIs(x, one, f, rounding, 65536);
            }
            int minus = x.fixed(-65536);
            int zero = x.fixed(0);
            for (int rounding = 0; rounding <= 2; rounding++) {
                copyIs(x, minus, f, rounding, -65536);
                copyIs(x, zero, f, rounding, 0);
            }
        }
    }

    /** VALUE 5 is 2^k UNITS, k up to 15, VALUE 6 is 1 UNIT. */
    private static BitTuner powerOfTwo(int k) {
        BitTuner x = new BitTuner();
        x.fixed(4096 << Math.min(k, 10));
        x.fixed(4096 << k - Math.min(k, 10));
        x.fixed(4096);
        x.work(4, 0, 1);
        x.work(4, 2, 2);
        x.work(4, 3, 4);
        x.work(4, 4, 4);
        return x;
    }

    private static void halvesGoUp() {
        Sentence.is("1 NEAREST, of two as near the greater one,");
        for (int f = 0; f <= 15; f++) {
            int half = 32768 >> f;
            BitTuner x = powerOfTwo(15 - f);
            int lessThanHalf = x.work(3, 5, 6);
            int moreThanHalf = x.work(2, 5, 6);
            int zero = x.fixed(0);
            int minusHalf = x.work(3, zero, 5);
            int lessBelow = x.work(3, zero, lessThanHalf);
            int moreBelow = x.work(3, zero, moreThanHalf);
            Sentence.due("a half", x.exact(5), half);
            copyIs(x, lessThanHalf, f, NEAREST, 0);
            copyIs(x, 5, f, NEAREST, 2 * half);
            // with U being 2, half of it and 1 more is U itself
            copyIs(x, moreThanHalf, f, NEAREST, 2 * half);
            copyIs(x, lessBelow, f, NEAREST, 0);
            copyIs(x, minusHalf, f, NEAREST, 0);
            copyIs(x, moreBelow, f, NEAREST, -2 * half);
        }
    }

    private static void tunedOfGivenOnes() {
        Sentence.is("TUNED is of an INPUT, a FIXED what it is EXACTLY;");
        BitTuner x = new BitTuner();
        x.input(-Made.G, Made.G);
        x.fixed(-4096);
        x.fixed(Made.G);
        Sentence.due("INPUT at LOW", x.tuned(0), -Made.G);
        x.set(0, 4096);
        Sentence.due("INPUT at a step", x.tuned(0), 4096);
        x.set(0, Made.G);
        Sentence.due("INPUT at HIGH", x.tuned(0), Made.G);
        Sentence.due("FIXED", x.tuned(1), -4096);
        Sentence.due("the greatest FIXED", x.tuned(2), Made.G);
    }

    /** Of 1.5 and -1.5, TUNED to 1 and to -2 by COPIES without BITS. */
    private static void workIs(int kind, int a, int b, long exact, long tuned) {
        BitTuner x = new BitTuner();
        x.fixed(98304);
        x.fixed(-98304);
        x.work(7, 0, 0);
        x.work(7, 1, 0);
        x.bits(2, 0);
        x.bits(3, 0);
        int v = x.work(kind, a, b);
        Sentence.due("exact, kind " + kind + " of " + a + ", " + b, x.exact(v), exact);
        Sentence.due("tuned, kind " + kind + " of " + a + ", " + b, x.tuned(v), tuned);
    }

    private static void workOnTunedParts() {
        Sentence.is("of others its KIND's work on the TUNED PARTS (of TIMES the whole product),"
                + " ROUNDED to a multiple of U,");
        workIs(2, 2, 3, 0, -65536);
        workIs(3, 2, 3, 3 * 65536, 3 * 65536);
        workIs(4, 2, 3, -147456, -2 * 65536);
        workIs(4, 3, 3, 147456, 4 * 65536);
        workIs(5, 2, 3, 98304, 65536);
        workIs(5, 3, 1, -98304, -98304);
        workIs(6, 3, 0, 98304, 2 * 65536);
        workIs(7, 3, 0, -98304, -2 * 65536);
    }

    /** 1 / 16 times 1 / 16 is 256 UNITS; U of the PARTS has no say, U of the product has. */
    private static void wholeProducts() {
        Sentence.is("(of TIMES the whole product), ROUNDED to a multiple of U,");
        int[][] nearest = {{6, 0}, {7, 512}, {8, 256}, {9, 256}, {16, 256}};
        for (int[] due : nearest) {
            BitTuner x = new BitTuner();
            x.fixed(4096);
            x.work(4, 0, 0);
            x.bits(1, due[0]);
            x.rounding(1, NEAREST);
            Sentence.due("NEAREST, " + due[0] + " BITS", x.tuned(1), due[1]);
        }
        BitTuner x = new BitTuner();
        x.fixed(4096);
        x.fixed(-4096);
        x.work(4, 0, 1);
        x.bits(2, 7);
        Sentence.due("-256 of 512, DOWN", x.tuned(2), -512);
        x.rounding(2, NEAREST);
        Sentence.due("-256 of 512, NEAREST", x.tuned(2), 0);
        x.rounding(2, TOWARD_ZERO);
        Sentence.due("-256 of 512, TOWARD 0", x.tuned(2), 0);
        x.bits(2, 8);
        for (int rounding = 0; rounding <= 2; rounding++) {
            x.rounding(2, rounding);
            Sentence.due("-256 of 256, ROUNDING " + rounding, x.tuned(2), -256);
        }
    }

    private static void cutAtTheTop() {
        Sentence.is("then cut to -2147483648 .. 2147483648.");
        BitTuner x = Made.atTheEnd(false);
        Sentence.due("half the top", x.tuned(8), TOP / 2);
        Sentence.due("the top", x.tuned(9), TOP);
        x.work(3, 9, 12);
        Sentence.due("1 UNIT below the top", x.tuned(13), TOP - 1);
        x.work(2, 13, 12);
        Sentence.due("back at the top", x.tuned(14), TOP);
        x.work(2, 9, 12);
        Sentence.due("1 UNIT above the top", x.tuned(15), TOP);
        x.cut(13);
        x.work(2, 9, 9);
        Sentence.due("twice the top", x.tuned(13), TOP);
        x.work(4, 9, 3);
        Sentence.due("64 times the top", x.tuned(14), TOP);
        x.work(6, 9, 0);
        Sentence.due("the AMOUNT of the top", x.tuned(15), TOP);
        x.cut(13);
        x.work(3, 9, 12);
        x.bits(13, 15);
        x.rounding(13, NEAREST);
        Sentence.due("1 UNIT below, rounded up to the top", x.tuned(13), TOP);
        x.bits(13, 0);
        x.rounding(13, DOWN);
        Sentence.due("1 UNIT below, rounded down", x.tuned(13), TOP - 65536);
        greatestProduct(12, 12, TOP);
        greatestProduct(13, 13, TOP);
    }

    private static void cutAtTheGround() {
        Sentence.is("then cut to -2147483648 .. 2147483648.");
        BitTuner x = Made.atTheEnd(true);
        Sentence.due("half the ground", x.tuned(8), -TOP / 2);
        Sentence.due("the ground", x.tuned(9), -TOP);
        x.work(2, 9, 12);
        Sentence.due("1 UNIT above the ground", x.tuned(13), -TOP + 1);
        x.work(3, 13, 12);
        Sentence.due("back at the ground", x.tuned(14), -TOP);
        x.work(3, 9, 12);
        Sentence.due("1 UNIT below the ground", x.tuned(15), -TOP);
        x.cut(13);
        x.work(2, 9, 9);
        Sentence.due("twice the ground", x.tuned(13), -TOP);
        x.work(4, 9, 3);
        Sentence.due("64 times the ground", x.tuned(14), -TOP);
        x.work(6, 9, 0);
        Sentence.due("the AMOUNT of the ground", x.tuned(15), TOP);
        x.cut(13);
        x.work(2, 9, 12);
        x.bits(13, 0);
        Sentence.due("1 UNIT above, rounded down to the ground", x.tuned(13), -TOP);
        x.rounding(13, TOWARD_ZERO);
        Sentence.due("1 UNIT above, TOWARD 0", x.tuned(13), -TOP + 65536);
        greatestProduct(12, 13, -TOP);
        greatestProduct(13, 12, -TOP);
    }

    /** The greatest products that TUNED PARTS can make: 2^62 before they are told in UNITS. */
    private static void greatestProduct(int a, int b, long want) {
        BitTuner x = new BitTuner();
        Made.away(x, 32768, false);
        for (int v = 2; v < 10; v++) {
            x.work(2, v, v);
        }
        x.work(4, 10, 10);
        x.work(2, 11, 11);
        x.work(3, 1, 12);
        Sentence.due("the top, of DEGREE 2", x.tuned(12), TOP);
        Sentence.due("the ground, of DEGREE 2", x.tuned(13), -TOP);
        x.work(4, a, b);
        for (int rounding = 0; rounding <= 2; rounding++) {
            for (int f = 0; f <= 16; f++) {
                x.rounding(14, rounding);
                x.bits(14, f);
                Sentence.due("their product, ROUNDING " + rounding + ", BITS " + f, x.tuned(14), want);
            }
        }
    }

    private static void missWithoutSign() {
        Sentence.is("The MISS: TUNED less EXACT, without sign.");
        BitTuner x = new BitTuner();
        x.fixed(4096);
        x.work(7, 0, 0);
        Sentence.due("none with all BITS", x.miss(1), 0);
        x.bits(1, 0);
        Sentence.due("TUNED below EXACT", x.miss(1), 4096);
        x.cut(0);
        x.fixed(61440);
        x.work(7, 0, 0);
        x.bits(1, 0);
        x.rounding(1, NEAREST);
        Sentence.due("TUNED above EXACT", x.miss(1), 4096);
        Sentence.due("a FIXED", x.miss(0), 0);
        Sentence.due("at the top", Made.atTheEnd(false).miss(9), TOP);
        Sentence.due("at the ground", Made.atTheEnd(true).miss(9), TOP);
    }
}
