/** The boundary cases of "Terms", part 3: THE BOUND, THE PRICE; one method for each sentence. */
public final class EdgesOfBoundsTest {
    private static final int DOWN = 0, NEAREST = 1, TOWARD_ZERO = 2;
    private static final int ONE = 65536;
    private static final long GREATEST = 1073741824;

    public static void main(String[] args) {
        boundOfGivenOnes();
        whatRoundingMisses();
        boundOfSumAndLess();
        boundOfGreater();
        boundOfAmountAndCopy();
        boundOfTimesEnds();
        boundOfTimesRoundedUp();
        timesOfTheGreatest();
        greatestBound();
        boundsNothing();
        prices();
        Check.finish();
    }

    private static void boundOfGivenOnes() {
        Sentence.is("THE BOUND: of INPUT, FIXED 0.");
        BitTuner x = new BitTuner();
        x.input(-Made.G, Made.G);
        x.fixed(Made.G);
        Sentence.due("of INPUT", x.about(0, 9), 0);
        Sentence.due("of FIXED", x.about(1, 9), 0);
    }

    private static void whatRoundingMisses() {
        Sentence.is("Of others, with A, B the BOUNDS of a, b, and R, U less 1 (of NEAREST: U by 2, cut):");
        for (int f = 0; f <= 16; f++) {
            long u = 65536 / (1 << f);
            BitTuner x = Made.inputs(1);
            x.work(7, 0, 0);
            x.bits(1, f);
            Sentence.due("DOWN, BITS " + f, x.about(1, 9), u - 1);
            x.rounding(1, TOWARD_ZERO);
            Sentence.due("TOWARD 0, BITS " + f, x.about(1, 9), u - 1);
            x.rounding(1, NEAREST);
            Sentence.due("NEAREST, BITS " + f, x.about(1, 9), f == 16 ? 0 : u / 2);
        }
    }

    /** THE BOUND of VALUE 4, of a kind, with told BITS of VALUES 2, 3 (COPIES of INPUTS) and of itself. */
    private static long bound(int kind, int a, int b, int f) {
        BitTuner x = Made.inputs(2);
        x.work(7, 0, 0);
        x.work(7, 1, 0);
        x.bits(2, a);
        x.bits(3, b);
        x.work(kind, 2, kind <= 5 ? 3 : 0);
        x.bits(4, f);
        return x.about(4, 9);
    }

    private static void boundOfSumAndLess() {
        Sentence.is("of SUM, LESS A and B and R together;");
        for (int kind = 2; kind <= 3; kind++) {
            Sentence.due("nothing missed", bound(kind, 16, 16, 16), 0);
            Sentence.due("A alone", bound(kind, 12, 16, 16), 15);
            Sentence.due("B alone", bound(kind, 16, 8, 16), 255);
            Sentence.due("R alone", bound(kind, 16, 16, 14), 3);
            Sentence.due("all three", bound(kind, 12, 8, 14), 273);
            Sentence.due("the most", bound(kind, 0, 0, 0), 3 * 65535);
        }
    }

    private static void boundOfGreater() {
        Sentence.is("of GREATER the greater one of A, B, and R;");
        Sentence.due("nothing missed", bound(5, 16, 16, 16), 0);
        Sentence.due("A the greater one", bound(5, 8, 12, 14), 258);
        Sentence.due("B the greater one", bound(5, 12, 8, 14), 258);
        Sentence.due("like ones", bound(5, 12, 12, 14), 18);
        Sentence.due("A alone", bound(5, 12, 16, 16), 15);
        Sentence.due("R the greatest is added, too", bound(5, 12, 16, 8), 270);
    }

    private static void boundOfAmountAndCopy() {
        Sentence.is("of AMOUNT, COPY A and R;");
        for (int kind = 6; kind <= 7; kind++) {
            // VALUE 3, and VALUE 0 as the b that does not count, have no say
            Sentence.due("nothing missed", bound(kind, 16, 0, 16), 0);
            Sentence.due("A alone", bound(kind, 12, 0, 16), 15);
            Sentence.due("R alone", bound(kind, 16, 0, 14), 3);
            Sentence.due("both", bound(kind, 12, 0, 14), 18);
        }
    }

    /** THE BOUND of a TIMES of two COPIES of INPUTS with these ends, both NEAREST. */
    private static long boundOfTimes(int[] aEnds, int[] bEnds, int a, int b, int f) {
        BitTuner x = new BitTuner();
        x.input(aEnds[0], aEnds[1]);
        x.input(bEnds[0], bEnds[1]);
        for (int v = 0; v < 2; v++) {
            x.work(7, v, 0);
            x.rounding(2 + v, NEAREST);
        }
        x.bits(2, a);
        x.bits(3, b);
        x.work(4, 2, 3);
        x.bits(4, f);
        return x.about(4, 9);
    }

    private static void boundOfTimesEnds() {
        Sentence.is("of TIMES, with a's greatest amount P (of both ends of its SPAN), b's Q:");
        int[] zero = {0, 0};
        int[][] ends = {{-3 * ONE, 2 * ONE}, {-2 * ONE, 3 * ONE}, {-3 * ONE, -2 * ONE}, {2 * ONE, 3 * ONE},
            {-3 * ONE, 3 * ONE}, {-3 * ONE, 0}, {0, 3 * ONE}};
        for (int[] span : ends) {
            String of = span[0] + " .. " + span[1];
            Sentence.due("Q times A of " + of, boundOfTimes(zero, span, 15, 16, 16), 3);
            Sentence.due("P times B of " + of, boundOfTimes(span, zero, 16, 15, 16), 3);
        }
        Sentence.due("P 0, nothing else missed", boundOfTimes(zero, zero, 16, 15, 16), 0);
        Sentence.due("Q 0, nothing else missed", boundOfTimes(zero, zero, 15, 16, 16), 0);
        Sentence.due("P has no say of A", boundOfTimes(ends[0], zero, 15, 16, 16), 0);
        Sentence.due("Q has no say of B", boundOfTimes(zero, ends[0], 16, 15, 16), 0);
    }

    private static void boundOfTimesRoundedUp() {
        Sentence.is("P times B, Q times A and A times B together by 65536, rounded up, and R,");
        int[] zero = {0, 0};
        int[] below = {61440, 61440};
        int[] one = {ONE, ONE};
        int[] above = {69632, 69632};
        int[] least = {4096, 4096};
        Sentence.due("4096", boundOfTimes(zero, least, 15, 16, 16), 1);
        Sentence.due("61440", boundOfTimes(zero, below, 15, 16, 16), 1);
        Sentence.due("65536", boundOfTimes(zero, one, 15, 16, 16), 1);
        Sentence.due("69632", boundOfTimes(zero, above, 15, 16, 16), 2);
        Sentence.due("1", boundOfTimes(zero, zero, 15, 15, 16), 1);
        Sentence.due("65536, of A times B", boundOfTimes(zero, zero, 7, 7, 16), 1);
        Sentence.due("4096 and 4096 and 1", boundOfTimes(least, least, 15, 15, 16), 1);
        Sentence.due("65536 and 65536 and 1", boundOfTimes(one, one, 15, 15, 16), 3);
        Sentence.due("61440 and 4096 and 1", boundOfTimes(below, least, 15, 15, 16), 2);
        Sentence.due("61440 and 4096 and 1, and R", boundOfTimes(below, least, 15, 15, 15), 3);
        Sentence.due("16 and 16 and 1 times 65536", boundOfTimes(least, least, 7, 7, 16), 33);
        Sentence.due("and R", boundOfTimes(least, least, 7, 7, 10), 33 + 63);
    }

    /**
     * VALUE 6 has THE BOUND 1073725440 (16384 less than the greatest), VALUE 5 half of that;
     * VALUE 0 is 0, VALUE 7 is 1, and all SPANS but those of VALUES 2, 7 are 0 to 0.
     */
    private static BitTuner great() {
        BitTuner x = new BitTuner();
        x.fixed(0);
        x.work(7, 0, 0);
        x.bits(1, 0);
        x.fixed(Made.G);
        x.work(4, 1, 2);
        x.work(4, 3, 2);
        x.work(2, 4, 4);
        x.work(2, 5, 5);
        x.fixed(ONE);
        return x;
    }

    private static BitTuner greatWith(int f, int rounding) {
        BitTuner x = great();
        x.bits(6, f);
        x.rounding(6, rounding);
        return x;
    }

    private static void timesOfTheGreatest() {
        Sentence.is("but 1073741824 if A or B is that.");
        BitTuner last = greatWith(2, DOWN);
        Sentence.due("the last BOUND", last.about(6, 9), GREATEST - 1);
        last.work(4, 6, 0);
        Sentence.due("the last BOUND times 0", last.about(8, 9), 0);
        last.work(4, 0, 6);
        Sentence.due("0 times the last BOUND", last.about(9, 9), 0);
        BitTuner first = greatWith(1, NEAREST);
        Sentence.due("the greatest BOUND", first.about(6, 9), GREATEST);
        first.work(4, 6, 0);
        Sentence.due("the greatest BOUND times 0", first.about(8, 9), GREATEST);
        first.work(4, 0, 6);
        Sentence.due("0 times the greatest BOUND", first.about(9, 9), GREATEST);
        first.work(4, 7, 6);
        Sentence.due("1 times the greatest BOUND", first.about(10, 9), GREATEST);
        first.bits(8, 0);
        Sentence.due("the greatest BOUND times 0, and R", first.about(8, 9), GREATEST);
    }

    /** A VALUE of the kind, its PARTS making 1073725440 together, and R. */
    private static void greatestOf(int kind) {
        int[][] parts = {{}, {}, {5, 5}, {5, 5}, {6, 7}, {6, 0}, {6, 0}, {6, 0}};
        BitTuner x = great();
        x.work(kind, parts[kind][0], parts[kind][1]);
        Sentence.due("without R, kind " + kind, x.about(8, 9), GREATEST - 16384);
        x.bits(8, 2);
        Sentence.due("1 below, kind " + kind, x.about(8, 9), GREATEST - 1);
        x.rounding(8, NEAREST);
        x.bits(8, 1);
        Sentence.due("the greatest, kind " + kind, x.about(8, 9), GREATEST);
        x.rounding(8, DOWN);
        Sentence.due("what would be above, kind " + kind, x.about(8, 9), GREATEST);
        x.bits(8, 0);
        Sentence.due("what would be far above, kind " + kind, x.about(8, 9), GREATEST);
    }

    private static void greatestBound() {
        Sentence.is("What would be above 1073741824 is 1073741824 (and bounds nothing then).");
        for (int kind = 2; kind <= 7; kind++) {
            greatestOf(kind);
        }
        BitTuner x = great();
        x.work(2, 6, 6);
        Sentence.due("twice as great", x.about(8, 9), GREATEST);
        x.work(2, 8, 8);
        Sentence.due("twice the greatest", x.about(9, 9), GREATEST);
        x.work(7, 9, 0);
        Sentence.due("its COPY", x.about(10, 9), GREATEST);
        x.work(5, 0, 9);
        Sentence.due("as the greater one", x.about(11, 9), GREATEST);
        x.cut(8);
        x.bits(4, 0);
        x.bits(5, 0);
        Sentence.due("by R of the PARTS", x.about(6, 9), GREATEST);
    }

    private static void boundsNothing() {
        Sentence.is("(and bounds nothing then).");
        BitTuner x = Made.atTheEnd(false);
        Sentence.due("THE BOUND", x.about(9, 9), GREATEST);
        Sentence.due("the MISS is above it", x.miss(9), 2 * GREATEST);
        Sentence.due("the last that bounds", x.about(7, 9), GREATEST - 16384);
        Sentence.due("its MISS", x.miss(7), GREATEST / 2);
    }

    private static void prices() {
        Sentence.is("THE PRICE: the sum over all VALUES but INPUTS and FIXED of WEIGHT times BITS.");
        BitTuner x = new BitTuner();
        Sentence.due("of none", x.price(), 0);
        x.input(0, 0);
        x.fixed(0);
        Sentence.due("of INPUT and FIXED", x.price(), 0);
        x.work(7, 1, 0);
        Sentence.due("of one at first", x.price(), 16);
        x.weight(2, 0);
        Sentence.due("WEIGHT 0", x.price(), 0);
        x.weight(2, 100);
        Sentence.due("WEIGHT 100", x.price(), 1600);
        x.bits(2, 0);
        Sentence.due("BITS 0", x.price(), 0);
        x.bits(2, 1);
        Sentence.due("BITS 1", x.price(), 100);
        BitTuner y = Made.inputs(1);
        for (int v = 1; v < 16; v++) {
            y.work(7, 0, 0);
            y.weight(v, 100);
        }
        Sentence.due("the greatest", y.price(), 24000);
    }
}
