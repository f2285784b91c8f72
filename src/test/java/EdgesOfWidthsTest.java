import java.math.BigInteger;

/** The boundary cases of promises 22 to 28; one method for each sentence. */
public final class EdgesOfWidthsTest {
    private static final long GREATEST = 1073741824;
    /** No VALUES of rich(), which has five. */
    private static final int[] NO_VALUES = {Integer.MIN_VALUE, -1, 5, 15, 16, Integer.MAX_VALUE};

    public static void main(String[] args) {
        leastAtMost();
        leastAtTheGreatestBound();
        leastOfAll();
        leastOfLikeOnes();
        leastBad();
        leastOfSix();
        leastAlwaysFound();
        trimOneByOne();
        trimFromZeroOn();
        trimBad();
        trimNever();
        floors();
        gains();
        gainAtTheGreatestBound();
        gainBad();
        blames();
        blameNone();
        blameBad();
        counts();
        digests();
        Check.finish();
    }

    /** COPIES one behind the other, of INPUT 0: VALUES 1 to so many. */
    private static BitTuner chain(int many) {
        BitTuner x = Made.inputs(1);
        for (int v = 1; v <= many; v++) {
            x.work(7, v - 1, 0);
        }
        return x;
    }

    /** COPIES of INPUT 0, side by side: VALUES 1 to so many. */
    private static BitTuner copies(int many) {
        BitTuner x = Made.inputs(1);
        for (int v = 1; v <= many; v++) {
            x.work(7, 0, 0);
        }
        return x;
    }

    private static void bitsAre(String call, BitTuner x, int first, int... wants) {
        for (int i = 0; i < wants.length; i++) {
            Sentence.due(call + ", BITS of " + (first + i), x.about(first + i, 4), wants[i]);
        }
    }

    // ---- promise 22

    private static void leastAtMost() {
        Sentence.is("`int least(int v, long m)`: All BITS (of VALUES but INPUTS, FIXED) are chosen of 0, 4, 8, 12, 16"
                + " so that THE BOUND of v is at most m");
        long[][] down = {{0, 16}, {14, 16}, {15, 12}, {254, 12}, {255, 8}, {4094, 8}, {4095, 4}, {65534, 4}, {65535, 0},
            {Long.MAX_VALUE, 0}};
        for (long[] due : down) {
            BitTuner x = chain(1);
            x.bits(1, 7);
            Sentence.due("DOWN, m " + due[0], x.least(1, due[0]), due[1]);
            bitsAre("DOWN, m " + due[0], x, 0, 16, (int) due[1]);
        }
        long[][] nearest = {{0, 16}, {7, 16}, {8, 12}, {127, 12}, {128, 8}, {2047, 8}, {2048, 4}, {32767, 4},
            {32768, 0}};
        for (long[] due : nearest) {
            BitTuner x = chain(1);
            x.rounding(1, 1);
            Sentence.due("NEAREST, m " + due[0], x.least(1, due[0]), due[1]);
            bitsAre("NEAREST, m " + due[0], x, 0, 16, (int) due[1]);
        }
    }

    /** Six VALUES without SPANS: with all BITS 0 THE BOUND of VALUE 7 is cut to the greatest. */
    private static BitTuner great() {
        BitTuner x = new BitTuner();
        x.fixed(0);
        x.work(7, 0, 0);
        x.fixed(Made.G);
        x.work(4, 1, 2);
        x.work(4, 3, 2);
        x.work(2, 4, 4);
        x.work(2, 5, 5);
        x.work(2, 6, 6);
        return x;
    }

    private static void leastAtTheGreatestBound() {
        Sentence.is("so that THE BOUND of v is at most m and THE PRICE is least;");
        BitTuner x = great();
        Sentence.due("m the greatest BOUND", x.least(7, GREATEST), 0);
        bitsAre("m the greatest BOUND", x, 3, 0, 0, 0, 0, 0);
        Sentence.due("what it bounds then", x.about(7, 9), GREATEST);
        // without BITS of VALUE 1 THE BOUND is 4096 times 8 times 65535 at least
        Sentence.due("m 1 below the greatest BOUND", x.least(7, GREATEST - 1), 4);
        bitsAre("m 1 below the greatest BOUND", x, 0, 16, 4, 16, 0, 0, 0, 0, 0);
        Sentence.due("m 2^32, which is 0 in 32 bits", x.least(7, 1L << 32), 0);
    }

    private static void leastOfAll() {
        Sentence.is("All BITS (of VALUES but INPUTS, FIXED) are chosen");
        BitTuner x = copies(3);
        Sentence.due("VALUES that have no share, too", x.least(2, 0), 16);
        bitsAre("VALUES that have no share, too", x, 0, 16, 0, 16, 0);
        Sentence.due("of an INPUT", x.least(0, 0), 0);
        bitsAre("of an INPUT", x, 0, 16, 0, 0, 0);
        BitTuner y = new BitTuner();
        y.fixed(0);
        Sentence.due("nothing to choose", y.least(0, 0), 0);
        bitsAre("nothing to choose", y, 0, 16);
    }

    private static void leastOfLikeOnes() {
        Sentence.is("of like ones that with, from the first VALUE in which they part, fewer BITS: THE PRICE.");
        BitTuner x = chain(2);
        // 65535 and 4095 are wanted, either way round
        Sentence.due("like ones", x.least(2, 65535 + 4095), 4);
        bitsAre("like ones", x, 1, 0, 4);
        Sentence.due("1 less", x.least(2, 65535 + 4095 - 1), 8);
        bitsAre("1 less", x, 1, 0, 8);
        x.weight(1, 0);
        Sentence.due("the first is free", x.least(2, 65535), 0);
        bitsAre("the first is free", x, 1, 16, 0);
        Sentence.due("free, but fewer where they will do", x.least(2, 65535 + 15), 0);
        bitsAre("free, but fewer where they will do", x, 1, 12, 0);
        x.weight(2, 0);
        Sentence.due("all are free", x.least(2, 65535 + 4095), 0);
        bitsAre("all are free", x, 1, 0, 4);
        BitTuner y = chain(6);
        y.weight(1, 100);
        Sentence.due("a dear one", y.least(6, 65535 + 5 * 4095), 20);
        bitsAre("a dear one", y, 1, 0, 4, 4, 4, 4, 4);
        Sentence.due("THE PRICE stands", y.price(), 20);
    }

    private static void leastBad() {
        Sentence.is("THE PRICE. BAD: v, m below 0; NOT: there are more than 6 such VALUES,");
        Sentence.due("m 0", Made.rich().least(4, 0), 16 * 16);
        Sentence.refused(Made::rich, "m -1", x -> x.least(4, -1), -2);
        Sentence.refused(Made::rich, "the least m", x -> x.least(4, Long.MIN_VALUE), -2);
        Sentence.refused(Made::rich, "m -2^32, which is 0 in 32 bits", x -> x.least(4, -(1L << 32)), -2);
        for (int v : NO_VALUES) {
            Sentence.refused(Made::rich, "least(" + v + ", 0)", x -> x.least(v, 0), -2);
        }
        Sentence.refused(Made::full, "BAD v, more than 6 too", x -> x.least(16, 0), -2);
        Sentence.refused(Made::full, "BAD m, more than 6 too", x -> x.least(4, -1), -2);
    }

    private static void leastOfSix() {
        Sentence.is("NOT: there are more than 6 such VALUES,");
        BitTuner six = chain(6);
        Sentence.due("6", six.least(6, 0), 96);
        BitTuner sixOfSixteen = chain(6);
        for (int v = 7; v < 16; v++) {
            sixOfSixteen.fixed(0);
        }
        Sentence.due("6, with INPUTS and FIXED 16", sixOfSixteen.least(6, 6 * 65535), 0);
        Sentence.refused(() -> chain(7), "7", x -> x.least(6, 0), -5);
        Sentence.refused(() -> chain(7), "7, any m", x -> x.least(6, Long.MAX_VALUE), -5);
        Sentence.refused(() -> chain(7), "7, of an INPUT", x -> x.least(0, 0), -5);
        Sentence.refused(() -> chain(15), "15", x -> x.least(1, 0), -5);
        BitTuner x = chain(7);
        x.cut(7);
        Sentence.due("6 again after a cut", x.least(6, 0), 96);
    }

    /** With all BITS 16 nothing is missed, so that there is always a choice. */
    private static void leastAlwaysFound() {
        Sentence.is("or none of these choices will do.");
        BitTuner x = great();
        Sentence.due("the greatest BOUND brought to 0", x.least(7, 0), 96);
        Sentence.due("it is 0", x.about(7, 9), 0);
        BitTuner y = chain(6);
        for (int v = 1; v <= 6; v++) {
            y.rounding(v, v % 3);
            y.weight(v, 100);
        }
        Sentence.due("all dear", y.least(6, 0), 9600);
    }

    // ---- promise 23

    private static void trimOneByOne() {
        Sentence.is("each VALUE (but INPUTS, FIXED) from 0 on has its BITS lessened one by one"
                + " as long as THE BOUND of v stays at most m: THE PRICE.");
        for (int f = 0; f <= 16; f++) {
            long bound = (1L << 16 - f) - 1;
            BitTuner x = chain(1);
            x.bits(1, 3);
            Sentence.due("m " + bound, x.trim(1, bound), f);
            bitsAre("m " + bound, x, 0, 16, f);
            if (f < 16) {
                Sentence.due("m " + (bound - 1), x.trim(1, bound - 1), f + 1);
                bitsAre("m " + (bound - 1), x, 0, 16, f + 1);
            }
        }
        BitTuner x = great();
        Sentence.due("m the greatest BOUND", x.trim(7, GREATEST), 0);
        // THE BOUND is the sum of their R times 32768, 512, 8, 4, 2 and 1; the R 32767, 63, 63, 1, 1, 1 leave nothing
        Sentence.due("m 1 below the greatest BOUND", x.trim(7, GREATEST - 1), 1 + 10 + 10 + 15 + 15 + 15);
        bitsAre("m 1 below the greatest BOUND", x, 0, 16, 1, 16, 10, 10, 15, 15, 15);
        Sentence.due("m is used up", x.about(7, 9), GREATEST - 1);
        Sentence.due("m 2^32, which is 0 in 32 bits", x.trim(7, 1L << 32), 0);
        Sentence.due("m the greatest long", x.trim(7, Long.MAX_VALUE), 0);
    }

    private static void trimFromZeroOn() {
        Sentence.is("`int trim(int v, long m)`: With all BITS 16, each VALUE (but INPUTS, FIXED) from 0 on");
        BitTuner x = chain(3);
        x.bits(1, 0);
        x.bits(2, 0);
        x.bits(3, 0);
        // the first takes 3 of 4, the second the 1 that is left
        Sentence.due("in turn", x.trim(3, 4), 14 + 15 + 16);
        bitsAre("in turn", x, 0, 16, 14, 15, 16);
        Sentence.due("those that have no share", x.trim(2, 4), 14 + 15);
        bitsAre("those that have no share", x, 0, 16, 14, 15, 0);
        x.weight(1, 100);
        Sentence.due("WEIGHTS have no say", x.trim(3, 4), 1400 + 15 + 16);
        Sentence.due("of an INPUT", x.trim(0, 0), 0);
        bitsAre("of an INPUT", x, 0, 16, 0, 0, 0);
        BitTuner y = chain(15);
        Sentence.due("15 VALUES", y.trim(15, 65535), 14 * 16);
        bitsAre("15 VALUES", y, 0, 16, 0, 16, 16, 16, 16, 16, 16, 16, 16, 16, 16, 16, 16, 16, 16);
        BitTuner z = new BitTuner();
        z.fixed(0);
        Sentence.due("nothing to lessen", z.trim(0, 0), 0);
        bitsAre("nothing to lessen", z, 0, 16);
    }

    private static void trimBad() {
        Sentence.is("stays at most m: THE PRICE. BAD: v, m below 0;");
        Sentence.due("m 0", Made.rich().trim(4, 0), 16 * 16);
        Sentence.refused(Made::rich, "m -1", x -> x.trim(4, -1), -2);
        Sentence.refused(Made::rich, "the least m", x -> x.trim(4, Long.MIN_VALUE), -2);
        Sentence.refused(Made::rich, "m -2^32, which is 0 in 32 bits", x -> x.trim(4, -(1L << 32)), -2);
        for (int v : NO_VALUES) {
            Sentence.refused(Made::rich, "trim(" + v + ", 0)", x -> x.trim(v, 0), -2);
        }
        Sentence.refused(Made::full, "one more than 15", x -> x.trim(16, 0), -2);
    }

    /** With all BITS 16 THE BOUND is 0, and no m that is not BAD is below it. */
    private static void trimNever() {
        Sentence.is("NOT: with all BITS 16 it is above m (BITS stay as they are).");
        for (int rounding = 0; rounding <= 2; rounding++) {
            BitTuner x = great();
            for (int v = 0; v < 8; v++) {
                x.rounding(v, rounding);
                x.bits(v, 0);
            }
            Sentence.due("with all BITS 0", x.about(7, 9), GREATEST);
            Sentence.due("with all BITS 16", x.floor(7), 0);
            Sentence.due("m 0", x.trim(7, 0), 96);
            bitsAre("m 0", x, 3, 16, 16, 16, 16, 16);
        }
    }

    // ---- promises 24 to 26

    private static void floors() {
        Sentence.is("`long floor(int v)`: THE BOUND that v would have with all BITS 16. BAD.");
        BitTuner x = great();
        for (int v = 0; v < 8; v++) {
            x.bits(v, 0);
        }
        for (int v = 0; v < 8; v++) {
            Sentence.due("floor(" + v + ")", x.floor(v), 0);
        }
        bitsAre("BITS stay", x, 0, 16, 0, 16, 0, 0, 0, 0, 0);
        for (int v : NO_VALUES) {
            Sentence.refused(Made::rich, "floor(" + v + ")", y -> y.floor(v), Check.BAD_LONG);
        }
        Sentence.due("of 16", Made.full().floor(15), 0);
        Sentence.refused(Made::full, "one more", y -> y.floor(16), Check.BAD_LONG);
    }

    private static void gains() {
        Sentence.is("`long gain(int v, int w)`: By how much THE BOUND of v would be less, if VALUE w had 16 BITS.");
        BitTuner x = chain(3);
        Sentence.due("16 BITS already", x.gain(3, 3), 0);
        x.bits(3, 15);
        Sentence.due("15 BITS", x.gain(3, 3), 1);
        x.bits(3, 0);
        x.bits(1, 12);
        Sentence.due("0 BITS", x.gain(3, 3), 65535);
        Sentence.due("one ahead", x.gain(3, 1), 15);
        Sentence.due("one behind", x.gain(1, 3), 0);
        Sentence.due("an INPUT", x.gain(3, 0), 0);
        Sentence.due("for an INPUT", x.gain(0, 3), 0);
        bitsAre("BITS stay", x, 0, 16, 12, 16, 0);
        BitTuner y = new BitTuner();
        y.fixed(0);
        Sentence.due("a FIXED", y.gain(0, 0), 0);
        BitTuner z = copies(2);
        z.work(5, 1, 2);
        z.bits(1, 12);
        z.bits(2, 12);
        // the greater one of both is no less if one of them is
        Sentence.due("of like ones of GREATER", z.gain(3, 1), 0);
        z.bits(1, 8);
        Sentence.due("the greater one, down to the other", z.gain(3, 1), 255 - 15);
    }

    private static void gainAtTheGreatestBound() {
        Sentence.is("By how much THE BOUND of v would be less,");
        BitTuner x = great();
        x.bits(1, 0);
        Sentence.due("from the greatest BOUND to 0", x.gain(7, 1), GREATEST);
        x.bits(7, 12);
        Sentence.due("from the greatest BOUND", x.gain(7, 1), GREATEST - 15);
        Sentence.due("the greatest BOUND stays", x.gain(7, 7), 0);
    }

    private static void gainBad() {
        Sentence.is("if VALUE w had 16 BITS. BAD.");
        for (int v : NO_VALUES) {
            Sentence.refused(Made::rich, "gain(" + v + ", 4)", x -> x.gain(v, 4), Check.BAD_LONG);
            Sentence.refused(Made::rich, "gain(4, " + v + ")", x -> x.gain(4, v), Check.BAD_LONG);
            Sentence.refused(Made::rich, "gain(" + v + ", " + v + ")", x -> x.gain(v, v), Check.BAD_LONG);
        }
        Sentence.due("of 16", Made.full().gain(15, 15), 0);
        Sentence.refused(Made::full, "gain(16, 15)", x -> x.gain(16, 15), Check.BAD_LONG);
        Sentence.refused(Made::full, "gain(15, 16)", x -> x.gain(15, 16), Check.BAD_LONG);
    }

    private static void blames() {
        Sentence.is("`int blame(int v)`: The VALUE (no INPUT, FIXED) with the greatest gain() for v,"
                + " of like ones the least;");
        BitTuner x = chain(3);
        x.bits(3, 15);
        Sentence.due("a gain of 1", x.blame(3), 3);
        x.bits(2, 15);
        Sentence.due("of like ones the least", x.blame(3), 2);
        x.bits(1, 15);
        Sentence.due("of three the least", x.blame(3), 1);
        x.bits(3, 14);
        Sentence.due("the greatest, being the last", x.blame(3), 3);
        x.bits(2, 13);
        Sentence.due("the greatest, being in the middle", x.blame(3), 2);
        bitsAre("BITS stay", x, 1, 15, 13, 14);
        BitTuner y = chain(15);
        y.bits(15, 0);
        Sentence.due("the last of 16", y.blame(15), 15);
    }

    private static void blameNone() {
        Sentence.is("NONE: none has one above 0.");
        BitTuner x = chain(3);
        Sentence.due("nothing is missed", x.blame(3), -1);
        Sentence.due("an INPUT", x.blame(0), -1);
        x.bits(3, 0);
        Sentence.due("one behind has no share", x.blame(2), -1);
        BitTuner y = new BitTuner();
        y.fixed(0);
        Sentence.due("a FIXED", y.blame(0), -1);
        BitTuner z = copies(2);
        z.work(5, 1, 2);
        z.bits(1, 0);
        z.bits(2, 0);
        Sentence.due("like ones of GREATER, no one gains alone", z.blame(3), -1);
        BitTuner great = new BitTuner();
        great.fixed(Made.G);
        great.work(7, 0, 0);
        great.work(7, 0, 0);
        great.bits(1, 0);
        great.bits(2, 0);
        great.work(3, 1, 1);
        great.work(3, 2, 2);
        great.work(4, 3, 0);
        great.work(4, 4, 0);
        great.work(4, 5, 0);
        great.work(4, 6, 0);
        great.work(2, 7, 7);
        great.work(2, 8, 8);
        great.work(2, 9, 9);
        great.work(2, 10, 10);
        great.work(2, 11, 12);
        // each of the halves would be above the greatest BOUND by itself
        Sentence.due("the greatest BOUND", great.about(13, 9), GREATEST);
        Sentence.due("no one gains alone from the greatest BOUND", great.blame(13), -1);
        Sentence.due("in a half one does", great.blame(11), 1);
    }

    private static void blameBad() {
        Sentence.is("NONE: none has one above 0. BAD.");
        for (int v : NO_VALUES) {
            Sentence.refused(Made::rich, "blame(" + v + ")", x -> x.blame(v), -2);
        }
        Sentence.refused(Made::full, "one more than 15", x -> x.blame(16), -2);
    }

    // ---- promises 27, 28

    private static void counts() {
        Sentence.is("`int count(int what)`: 0 VALUES, 1 INPUTS, 2 THE PRICE, 3 VALUES that are no INPUTS, FIXED. BAD.");
        int[] none = {0, 0, 0, 0};
        int[] rich = {5, 2, 66, 2};
        int[] full = {16, 2, 66 + 11 * 16, 13};
        int[] inputs = {16, 16, 0, 0};
        int[] most = {16, 1, 240, 15};
        for (int what = 0; what <= 3; what++) {
            Sentence.due("of none, " + what, new BitTuner().count(what), none[what]);
            Sentence.due("of rich(), " + what, Made.rich().count(what), rich[what]);
            Sentence.due("of full(), " + what, Made.full().count(what), full[what]);
            Sentence.due("of 16 INPUTS, " + what, Made.inputs(16).count(what), inputs[what]);
            Sentence.due("of 15 COPIES, " + what, chain(15).count(what), most[what]);
        }
        for (int what : new int[] {Integer.MIN_VALUE, -1, 4, 5, Integer.MAX_VALUE}) {
            Sentence.refused(Made::rich, "count(" + what + ")", x -> x.count(what), -2);
        }
    }

    private static BigInteger next(BigInteger h, long more) {
        return h.multiply(BigInteger.valueOf(31)).add(BigInteger.valueOf(more));
    }

    /** h without any wrapping, of which the last 64 bits are due. */
    private static BigInteger wholeDigest(BitTuner x) {
        BigInteger h = BigInteger.valueOf(17);
        for (int what = 0; what <= 3; what++) {
            h = next(h, x.count(what));
        }
        for (int v = 0; v < x.count(0); v++) {
            for (int what = 0; what <= 9; what++) {
                h = next(h, x.about(v, what));
            }
            h = next(next(h, x.exact(v)), x.tuned(v));
        }
        return h;
    }

    private static void digests() {
        Sentence.is("`long digest()`: h is 17; h becomes 31 h and each of: count() 0 to 3, of each VALUE"
                + " about() 0 to 9, exact(), tuned(); as longs that wrap.");
        Sentence.due("of none", new BitTuner().digest(), 17L * 31 * 31 * 31 * 31);
        Sentence.holds("rich() wraps", wholeDigest(Made.rich()).bitLength() > 63);
        Sentence.due("of rich()", Made.rich().digest(), wholeDigest(Made.rich()).longValue());
        Sentence.due("of full()", Made.full().digest(), wholeDigest(Made.full()).longValue());
        Sentence.due("at the ground", Made.atTheEnd(true).digest(), wholeDigest(Made.atTheEnd(true)).longValue());
        Sentence.due("of 16 INPUTS", Made.inputs(16).digest(), wholeDigest(Made.inputs(16)).longValue());
        Sentence.refused(Made::rich, "a digest changes nothing", x -> x.digest(), Made.rich().digest());
        BitTuner cut = Made.full();
        cut.cut(0);
        Sentence.due("of none again after a cut", cut.digest(), 17L * 31 * 31 * 31 * 31);
    }
}
