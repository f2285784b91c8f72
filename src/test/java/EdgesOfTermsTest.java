import java.util.function.Supplier;

/** The boundary cases of "Terms", part 1: VALUES, KINDS, DEGREES, SPANS; one method for each sentence. */
public final class EdgesOfTermsTest {
    private static final int G = Made.G;
    private static final int ONE = 65536;
    private static final int WIDEST = 67108864;

    public static void main(String[] args) {
        sixteenValues();
        partsAhead();
        anyMultipleFromLowToHigh();
        endsOfInputs();
        endsOfFixed();
        worksOfKinds();
        greaterOne();
        withoutItsSign();
        degreeOfGivenOnes();
        degreeOfTimes();
        degreeOfOthers();
        degreeAtMostFour();
        wholeUnits();
        spanOfGivenOnes();
        spanOfSum();
        spanOfLess();
        spanOfTimes();
        spanOfGreater();
        spanOfAmount();
        spanOfCopy();
        spanLimitOfSums();
        spanLimitOfProducts();
        Check.finish();
    }

    private static void sixteenValues() {
        Sentence.is("VALUES 0, 1, .. (16 at most) are told one behind the other, by KINDS,");
        BitTuner x = new BitTuner();
        Sentence.due("the first is 0", x.input(0, 0), 0);
        Sentence.due("the next is 1", x.fixed(0), 1);
        Sentence.due("the next is 2", x.work(7, 0, 0), 2);
        Sentence.due("an INPUT as the sixteenth", Made.inputs(15).input(0, 0), 15);
        Sentence.due("a FIXED as the sixteenth", Made.inputs(15).fixed(0), 15);
        Sentence.due("a COPY as the sixteenth", Made.inputs(15).work(7, 14, 0), 15);
        Sentence.refused(() -> Made.inputs(16), "an INPUT as the seventeenth", y -> y.input(0, 0), -3);
        Sentence.refused(() -> Made.inputs(16), "a FIXED as the seventeenth", y -> y.fixed(0), -3);
        Sentence.refused(() -> Made.inputs(16), "a COPY as the seventeenth", y -> y.work(7, 15, 0), -3);
    }

    private static void partsAhead() {
        Sentence.is("their PARTS being VALUES ahead of them:");
        for (int kind = 2; kind <= 7; kind++) {
            int k = kind;
            boolean two = kind <= 5;
            Sentence.due("the latest as a of " + k, Made.inputs(3).work(k, 2, 0), 3);
            Sentence.refused(() -> Made.inputs(3), "itself as a of " + k, x -> x.work(k, 3, 0), -2);
            Sentence.refused(() -> Made.inputs(3), "-1 as a of " + k, x -> x.work(k, -1, 0), -2);
            Sentence.due("the latest as b of " + k, Made.inputs(3).work(k, 0, 2), two ? 3 : -2);
            Sentence.refused(() -> Made.inputs(3), "itself as b of " + k, x -> x.work(k, 0, 3), -2);
            Sentence.refused(() -> Made.inputs(3), "-1 as b of " + k, x -> x.work(k, 0, -1), -2);
            Sentence.refused(BitTuner::new, "no VALUE for a of " + k, x -> x.work(k, 0, 0), -2);
            for (int far : Made.FAR_INTS) {
                Sentence.refused(() -> Made.inputs(3), far + " as a of " + k, x -> x.work(k, far, 0), -2);
                Sentence.refused(() -> Made.inputs(3), far + " as b of " + k, x -> x.work(k, 0, far), -2);
            }
        }
        BitTuner x = Made.inputs(3);
        x.cut(2);
        Sentence.due("one that is gone", x.work(2, 0, 2), -2);
        Sentence.due("the latest that is left", x.work(2, 0, 1), 2);
    }

    private static void anyMultipleFromLowToHigh() {
        Sentence.is("0 INPUT: any multiple of 4096 UNITS from LOW to HIGH");
        BitTuner x = new BitTuner();
        x.input(-8192, 4096);
        for (int units = -8192; units <= 4096; units += 4096) {
            Sentence.due("set " + units, x.set(0, units), 1);
            Sentence.due("it is " + units, x.exact(0), units);
        }
        Sentence.due("there are four", x.rows(), 4);
        Sentence.due("one more below", x.set(0, -12288), -2);
        Sentence.due("one more above", x.set(0, 8192), -2);
    }

    private static void endsOfInputs() {
        Sentence.is("(multiples, too, from -4194304 to 4194304, LOW not above HIGH).");
        int[][] taken = {{-G, -G}, {G, G}, {-G, G}, {0, 0}, {-4096, -4096}, {4096, 4096}, {-4096, 0}, {0, 4096},
            {-G, -G + 4096}, {G - 4096, G}};
        int[][] refused = {{-G - 4096, 0}, {-G - 1, 0}, {-G + 1, 0}, {0, G + 4096}, {0, G + 1}, {0, G - 1},
            {-G - 4096, -G - 4096}, {G + 4096, G + 4096}, {G, G + 4096}, {-G - 4096, -G},
            {4096, 0}, {0, -4096}, {-4096, -8192}, {G, -G}, {G, G - 4096},
            {1, 4096}, {-1, 4096}, {4095, 8192}, {4097, 8192}, {-4095, 0}, {-4097, 0}, {2048, 4096},
            {0, 1}, {0, 4095}, {0, 4097}, {-4096, -1}, {-8192, -4095}, {-8192, -4097}, {0, 2048}, {1, 1}};
        for (int[] ends : taken) {
            BitTuner x = new BitTuner();
            Sentence.due("input(" + ends[0] + ", " + ends[1] + ")", x.input(ends[0], ends[1]), 0);
            Sentence.due("LOW " + ends[0], x.about(0, 1), ends[0]);
            Sentence.due("HIGH " + ends[1], x.about(0, 2), ends[1]);
        }
        for (int[] ends : refused) {
            inputRefused(ends[0], ends[1]);
        }
        for (int far : new int[] {Integer.MIN_VALUE, -2147479552, 2147479552, Integer.MAX_VALUE}) {
            inputRefused(far, 0);
            inputRefused(0, far);
            inputRefused(far, far);
        }
    }

    private static void inputRefused(int low, int high) {
        Sentence.refused(Made::rich, "input(" + low + ", " + high + ")", x -> x.input(low, high), -2);
    }

    private static void endsOfFixed() {
        Sentence.is("1 FIXED: a multiple of 4096 UNITS (as great).");
        for (int c : new int[] {-G, -G + 4096, -4096, 0, 4096, G - 4096, G}) {
            BitTuner x = new BitTuner();
            Sentence.due("fixed(" + c + ")", x.fixed(c), 0);
            Sentence.due("it is " + c, x.exact(0), c);
        }
        for (int c : new int[] {-G - 4096, -G - 1, -G + 1, -4097, -4095, -2048, -1, 1, 2048, 4095, 4097, G - 1, G + 1,
            G + 4096, Integer.MIN_VALUE, -2147479552, 2147479552, Integer.MAX_VALUE}) {
            Sentence.refused(Made::rich, "fixed(" + c + ")", x -> x.fixed(c), -2);
        }
    }

    /** What the VALUE of a kind is, EXACTLY and TUNED with all its BITS. */
    private static void workIs(int kind, int a, int b, long want) {
        BitTuner x = new BitTuner();
        x.fixed(a);
        x.fixed(b);
        int v = x.work(kind, 0, kind <= 5 ? 1 : 0);
        Sentence.due("exact, kind " + kind + " of " + a + ", " + b, x.exact(v), want);
        Sentence.due("tuned, kind " + kind + " of " + a + ", " + b, x.tuned(v), want);
    }

    private static void worksOfKinds() {
        Sentence.is("2 SUM a, b.");
        workIs(2, G, G, 2L * G);
        workIs(2, -G, -G, -2L * G);
        workIs(2, -G, G, 0);
        Sentence.is("3 LESS a, b: a less b.");
        workIs(3, G, -G, 2L * G);
        workIs(3, -G, G, -2L * G);
        workIs(3, -G, -G, 0);
        Sentence.is("4 TIMES a, b.");
        workIs(4, 4096, 4096, 256);
        workIs(4, -4096, 4096, -256);
        workIs(4, -4096, -4096, 256);
        workIs(4, G, ONE, G);
        workIs(4, -G, 0, 0);
        Sentence.is("7 COPY a: a itself.");
        workIs(7, -G, 0, -G);
        workIs(7, 0, G, 0);
        workIs(7, G, 0, G);
    }

    private static void greaterOne() {
        Sentence.is("5 GREATER a, b: the greater one.");
        workIs(5, 4096, 8192, 8192);
        workIs(5, 8192, 4096, 8192);
        workIs(5, -4096, -8192, -4096);
        workIs(5, -8192, 4096, 4096);
        workIs(5, -8192, -8192, -8192);
        workIs(5, 0, -4096, 0);
        workIs(5, -G, G, G);
    }

    private static void withoutItsSign() {
        Sentence.is("6 AMOUNT a: without its sign.");
        workIs(6, -4096, 0, 4096);
        workIs(6, 4096, 0, 4096);
        workIs(6, 0, 0, 0);
        workIs(6, -G, 0, G);
        workIs(6, G, 0, G);
    }

    /** An INPUT and its powers: VALUES 0 to 3 are of DEGREES 1 to 4. */
    private static BitTuner powers() {
        BitTuner x = new BitTuner();
        x.input(-4096, 4096);
        x.work(4, 0, 0);
        x.work(4, 0, 1);
        x.work(4, 0, 2);
        return x;
    }

    private static void degreeOfGivenOnes() {
        Sentence.is("DEGREE: 1 of INPUT and FIXED;");
        BitTuner x = new BitTuner();
        x.input(0, 0);
        x.fixed(0);
        Sentence.due("of INPUT", x.about(0, 3), 1);
        Sentence.due("of FIXED", x.about(1, 3), 1);
    }

    private static void degreeOfTimes() {
        Sentence.is("of TIMES the DEGREES of a and b together;");
        for (int a = 1; a <= 3; a++) {
            for (int b = 1; a + b <= 4; b++) {
                BitTuner x = powers();
                int v = x.work(4, a - 1, b - 1);
                Sentence.due("of DEGREES " + a + ", " + b, x.about(v, 3), a + b);
            }
        }
    }

    private static void degreeOfOthers() {
        Sentence.is("else the greatest of those of its PARTS;");
        for (int kind : new int[] {2, 3, 5}) {
            for (int a = 1; a <= 4; a++) {
                for (int b = 1; b <= 4; b++) {
                    BitTuner x = powers();
                    int v = x.work(kind, a - 1, b - 1);
                    Sentence.due("kind " + kind + " of DEGREES " + a + ", " + b, x.about(v, 3), Math.max(a, b));
                }
            }
        }
        for (int a = 1; a <= 4; a++) {
            BitTuner x = powers();
            x.work(6, a - 1, 0);
            x.work(7, a - 1, 0);
            Sentence.due("of AMOUNT of DEGREE " + a, x.about(4, 3), a);
            Sentence.due("of COPY of DEGREE " + a, x.about(5, 3), a);
        }
    }

    private static void degreeAtMostFour() {
        Sentence.is("at most 4.");
        for (int a = 1; a <= 4; a++) {
            for (int b = 1; b <= 4; b++) {
                int first = a - 1;
                int second = b - 1;
                String call = "TIMES of DEGREES " + a + ", " + b;
                if (a + b <= 4) {
                    Sentence.due(call, powers().work(4, first, second), 4);
                } else {
                    Sentence.refused(EdgesOfTermsTest::powers, call, x -> x.work(4, first, second), -4);
                }
            }
        }
        Supplier<BitTuner> zeros = () -> {
            BitTuner x = new BitTuner();
            x.fixed(0);
            x.work(4, 0, 0);
            x.work(4, 1, 1);
            return x;
        };
        Sentence.refused(zeros, "a DEGREE of 5 with a SPAN of 0", x -> x.work(4, 2, 0), -4);
    }

    private static void wholeUnits() {
        Sentence.is("So what a VALUE is EXACTLY is a whole number of UNITS.");
        BitTuner x = new BitTuner();
        int unit = Made.unit(x);
        Sentence.due("the least product", x.exact(unit), 1);
        int minus = x.fixed(-4096);
        int square = x.work(4, minus, 0);
        int cube = x.work(4, square, 0);
        int last = x.work(4, cube, 0);
        Sentence.due("-1 / 256", x.exact(square), -256);
        Sentence.due("-1 / 4096", x.exact(cube), -16);
        Sentence.due("-1 / 65536", x.exact(last), -1);
    }

    private static void spanIs(BitTuner x, int v, long least, long most) {
        Sentence.due("LEAST of " + v, x.about(v, 7), least);
        Sentence.due("MOST of " + v, x.about(v, 8), most);
    }

    /** The SPAN of a kind of two INPUTS with these ends; all in whole numbers. */
    private static void spanOf(int kind, int aLow, int aHigh, int bLow, int bHigh, int least, int most) {
        BitTuner x = new BitTuner();
        x.input(aLow * ONE, aHigh * ONE);
        x.input(bLow * ONE, bHigh * ONE);
        x.work(kind, 0, kind <= 5 ? 1 : 0);
        String call = "kind " + kind + " of " + aLow + " .. " + aHigh + " and " + bLow + " .. " + bHigh;
        Sentence.due(call + ", LEAST", x.about(2, 7), (long) least * ONE);
        Sentence.due(call + ", MOST", x.about(2, 8), (long) most * ONE);
    }

    private static void spanOfGivenOnes() {
        Sentence.is("SPAN, from LEAST to MOST: of INPUT LOW, HIGH; of FIXED itself twice;");
        BitTuner x = new BitTuner();
        spanIs(x, x.input(-G, G), -G, G);
        spanIs(x, x.input(-4096, -4096), -4096, -4096);
        x.set(0, 8192);
        spanIs(x, 0, -G, G);
        spanIs(x, x.fixed(-G), -G, -G);
        spanIs(x, x.fixed(0), 0, 0);
        spanIs(x, x.fixed(G), G, G);
    }

    private static void spanOfSum() {
        Sentence.is("of SUM the sums of both LEAST, of both MOST;");
        spanOf(2, -1, 2, -4, 8, -5, 10);
        spanOf(2, 0, 0, 0, 0, 0, 0);
        spanOf(2, -64, 64, -64, 64, -128, 128);
        BitTuner x = new BitTuner();
        x.input(-ONE, ONE);
        spanIs(x, x.work(2, 0, 0), -2 * ONE, 2 * ONE);
    }

    private static void spanOfLess() {
        Sentence.is("of LESS a's LEAST less b's MOST, a's MOST less b's LEAST;");
        spanOf(3, -1, 2, -4, 8, -9, 6);
        spanOf(3, -64, 64, -64, 64, -128, 128);
        BitTuner x = new BitTuner();
        x.input(-ONE, 2 * ONE);
        // a VALUE less itself is EXACTLY 0, its SPAN is not
        spanIs(x, x.work(3, 0, 0), -3 * ONE, 3 * ONE);
    }

    private static void spanOfTimes() {
        Sentence.is("of TIMES the least and the greatest of the four products of ends;");
        spanOf(4, -1, 2, -3, 4, -6, 8);
        spanOf(4, -2, 1, -3, 4, -8, 6);
        spanOf(4, -1, 2, -4, 3, -8, 6);
        spanOf(4, -2, 1, -4, 3, -6, 8);
        spanOf(4, 1, 2, 3, 4, 3, 8);
        spanOf(4, -2, -1, -4, -3, 3, 8);
        spanOf(4, 1, 2, -4, -3, -8, -3);
        spanOf(4, -2, -1, 3, 4, -8, -3);
        spanOf(4, 0, 0, -4, 3, 0, 0);
        spanOf(4, 0, 2, 3, 4, 0, 8);
        spanOf(4, -2, 0, 3, 4, -8, 0);
        BitTuner x = new BitTuner();
        x.input(-2 * ONE, ONE);
        // no square is below 0, but a product of ends is
        spanIs(x, x.work(4, 0, 0), -2 * ONE, 4 * ONE);
        BitTuner y = new BitTuner();
        y.input(-4096, 4096);
        y.work(4, 0, 0);
        y.work(4, 1, 1);
        spanIs(y, 2, -1, 1);
    }

    private static void spanOfGreater() {
        Sentence.is("of GREATER the greater one of both LEAST, of both MOST;");
        spanOf(5, -1, 2, -4, 8, -1, 8);
        spanOf(5, -4, 8, -1, 2, -1, 8);
        spanOf(5, -4, 2, -1, 8, -1, 8);
        spanOf(5, -4, -3, -2, -1, -2, -1);
        spanOf(5, -4, 3, -4, 3, -4, 3);
    }

    private static void spanOfAmount() {
        Sentence.is("of AMOUNT 0 (if LEAST is not above 0, MOST not below) or else the lesser amount of both ends,"
                + " and the greater amount;");
        spanOf(6, -1, 2, 0, 0, 0, 2);
        spanOf(6, -2, 1, 0, 0, 0, 2);
        spanOf(6, -2, 2, 0, 0, 0, 2);
        spanOf(6, 0, 2, 0, 0, 0, 2);
        spanOf(6, -2, 0, 0, 0, 0, 2);
        spanOf(6, 0, 0, 0, 0, 0, 0);
        spanOf(6, 1, 2, 0, 0, 1, 2);
        spanOf(6, -2, -1, 0, 0, 1, 2);
        BitTuner x = new BitTuner();
        int unit = Made.unit(x);
        int wide = x.input(0, 4096);
        // the first LEAST that is above 0, the first MOST that is below
        spanIs(x, x.work(6, x.work(2, wide, unit), 0), 1, 4097);
        int below = x.input(-4096, 0);
        spanIs(x, x.work(6, x.work(3, below, unit), 0), 1, 4097);
        // the last LEAST, the last MOST with 0 between them
        spanIs(x, x.work(6, x.work(3, wide, unit), 0), 0, 4095);
        spanIs(x, x.work(6, x.work(2, below, unit), 0), 0, 4095);
    }

    private static void spanOfCopy() {
        Sentence.is("of COPY that of a.");
        spanOf(7, -3, 5, 0, 0, -3, 5);
        spanOf(7, 64, 64, 0, 0, 64, 64);
        spanOf(7, -64, -64, 0, 0, -64, -64);
    }

    /** VALUE 4 is a FIXED doubled four times: 16 times it; VALUE 7 is 1 UNIT. */
    private static BitTuner sixteenTimes(int units) {
        BitTuner x = new BitTuner();
        x.fixed(units);
        for (int v = 0; v < 4; v++) {
            x.work(2, v, v);
        }
        Made.unit(x);
        return x;
    }

    private static void spanLimitOfSums() {
        Sentence.is("It is to lie within -67108864 to 67108864.");
        BitTuner top = sixteenTimes(G);
        spanIs(top, 4, WIDEST, WIDEST);
        Sentence.due("LESS 1 UNIT at the top", top.work(3, 4, 7), 8);
        spanIs(top, 8, WIDEST - 1, WIDEST - 1);
        Sentence.due("back to the top", top.work(2, 8, 7), 9);
        Sentence.due("COPY of the top", top.work(7, 4, 0), 10);
        Sentence.due("AMOUNT of the top", top.work(6, 4, 0), 11);
        Sentence.due("GREATER of the top", top.work(5, 4, 7), 12);
        Sentence.refused(() -> sixteenTimes(G), "SUM 1 UNIT above the top", x -> x.work(2, 4, 7), -4);
        Sentence.refused(() -> sixteenTimes(G), "twice the top", x -> x.work(2, 4, 4), -4);
        BitTuner ground = sixteenTimes(-G);
        spanIs(ground, 4, -WIDEST, -WIDEST);
        Sentence.due("SUM 1 UNIT at the ground", ground.work(2, 4, 7), 8);
        spanIs(ground, 8, -WIDEST + 1, -WIDEST + 1);
        Sentence.due("back to the ground", ground.work(3, 8, 7), 9);
        Sentence.due("COPY of the ground", ground.work(7, 4, 0), 10);
        Sentence.due("AMOUNT of the ground", ground.work(6, 4, 0), 11);
        spanIs(ground, 11, WIDEST, WIDEST);
        Sentence.refused(() -> sixteenTimes(-G), "LESS 1 UNIT below the ground", x -> x.work(3, 4, 7), -4);
        Sentence.refused(() -> sixteenTimes(-G), "twice the ground", x -> x.work(2, 4, 4), -4);
        Sentence.refused(() -> sixteenTimes(-G), "1 UNIT LESS the ground", x -> x.work(3, 7, 4), -4);
    }

    private static BitTuner factors(int aLow, int aHigh, int bLow, int bHigh) {
        BitTuner x = new BitTuner();
        x.input(aLow * 4096, aHigh * 4096);
        x.input(bLow * 4096, bHigh * 4096);
        return x;
    }

    /** Products in steps of 1 / 256, of which 262144 make the end of a SPAN. */
    private static void spanLimitOfProducts() {
        Sentence.is("It is to lie within -67108864 to 67108864.");
        BitTuner x = factors(512, 512, 512, 512);
        Sentence.due("262144 steps", x.work(4, 0, 1), 2);
        spanIs(x, 2, WIDEST, WIDEST);
        BitTuner y = factors(-512, -512, 512, 512);
        Sentence.due("-262144 steps", y.work(4, 0, 1), 2);
        spanIs(y, 2, -WIDEST, -WIDEST);
        BitTuner z = factors(511, 511, -513, -513);
        Sentence.due("-262143 steps", z.work(4, 0, 1), 2);
        spanIs(z, 2, -WIDEST + 256, -WIDEST + 256);
        Sentence.refused(() -> factors(481, 481, 545, 545), "262145 steps", w -> w.work(4, 0, 1), -4);
        Sentence.refused(() -> factors(-481, -481, 545, 545), "-262145 steps", w -> w.work(4, 0, 1), -4);
        Sentence.refused(() -> factors(-481, 0, 0, 545), "from -262145 steps to 0", w -> w.work(4, 0, 1), -4);
        Sentence.refused(() -> factors(-481, 0, -545, 0), "from 0 to 262145 steps", w -> w.work(4, 0, 1), -4);
        Sentence.refused(() -> factors(-1024, 1024, -1024, 1024), "the widest", w -> w.work(4, 0, 1), -4);
    }
}
