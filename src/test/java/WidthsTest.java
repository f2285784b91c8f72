/** Promises 22 to 28: widths. */
public final class WidthsTest {
    public static void main(String[] args) {
        cheapest();
        cheapestOfLikeOnes();
        cheapestRefused();
        trims();
        floors();
        gains();
        blames();
        counts();
        digests();
        fullProgram();
        Check.finish();
    }

    /** An INPUT and three sums in a row, each the double of the one ahead. */
    private static BitTuner chain() {
        BitTuner x = new BitTuner();
        x.input(-65536, 65536);
        x.work(2, 0, 0);
        x.work(2, 1, 1);
        x.work(2, 2, 2);
        return x;
    }

    private static void bitsAre(String what, BitTuner x, int first, long... wants) {
        for (int i = 0; i < wants.length; i++) {
            Check.due(what + ", bits of " + (first + i), x.about(first + i, 4), wants[i]);
        }
    }

    private static void cheapest() {
        BitTuner x = chain();
        Check.due("P22 no miss", x.least(3, 0), 48);
        bitsAre("P22 no miss", x, 1, 16, 16, 16);
        Check.due("P22 any miss", x.least(3, Long.MAX_VALUE), 0);
        bitsAre("P22 any miss", x, 1, 0, 0, 0);
        Check.due("P22 the price stands", x.price(), 0);
        Check.due("P22 just enough", x.least(3, 7 * 65535L), 0);
        Check.due("P22 just too little", x.least(3, 7 * 65535L - 1), 4);
        bitsAre("P22 just too little", x, 1, 0, 0, 4);
        Check.due("P22 of the first", x.least(1, 4095), 4);
        bitsAre("P22 of the first", x, 1, 4, 0, 0);
        Check.due("P22 of an INPUT", x.least(0, 0), 0);
        bitsAre("P22 of an INPUT", x, 0, 16, 0, 0, 0);
        x.weight(3, 100);
        Check.due("P22 a dear one", x.least(3, 65535 + 60000), 8);
        bitsAre("P22 a dear one", x, 1, 4, 4, 0);
        Check.due("P22 nothing to choose", new BitTuner().least(0, 0), -2);
        BitTuner y = new BitTuner();
        y.fixed(0);
        Check.due("P22 nothing but FIXED", y.least(0, 0), 0);
        Check.due("P22 FIXED keeps its bits", y.about(0, 4), 16);
    }

    private static void cheapestOfLikeOnes() {
        BitTuner x = new BitTuner();
        x.input(0, 65536);
        x.work(7, 0, 0);
        x.work(7, 0, 0);
        x.work(2, 1, 2);
        Check.due("P22 like ones", x.least(3, 65535 + 2 * 4095), 8);
        bitsAre("P22 fewer bits first", x, 1, 0, 4, 4);
        x.weight(1, 0);
        Check.due("P22 weight 0", x.least(3, 65535 + 4095 + 255), 4);
        bitsAre("P22 no more bits than are needed", x, 1, 8, 0, 4);
        x.weight(3, 0);
        x.weight(2, 0);
        Check.due("P22 all free", x.least(3, 4095 + 255), 0);
        bitsAre("P22 all free", x, 1, 4, 8, 16);
    }

    private static void cheapestRefused() {
        BitTuner x = chain();
        x.bits(2, 7);
        Check.due("P22 none", x.least(4, 0), -2);
        Check.due("P22 below 0", x.least(-1, 0), -2);
        Check.due("P22 m below 0", x.least(3, -1), -2);
        Check.due("P22 least m", x.least(3, Long.MIN_VALUE), -2);
        x.work(7, 0, 0);
        x.work(7, 0, 0);
        x.work(7, 0, 0);
        Check.due("P22 six", x.least(1, 1000000), 0);
        x.bits(2, 7);
        x.work(7, 0, 0);
        Check.due("P22 seven", x.least(1, 1000000), -5);
        Check.due("P22 BAD ahead of NOT", x.least(1, -1), -2);
        bitsAre("P22 refusals change nothing", x, 1, 0, 7, 0);
    }

    private static void trims() {
        BitTuner x = chain();
        x.bits(3, 2);
        Check.due("P23 none", x.trim(4, 0), -2);
        Check.due("P23 below 0", x.trim(-1, 0), -2);
        Check.due("P23 m below 0", x.trim(3, -1), -2);
        bitsAre("P23 refusals change nothing", x, 1, 16, 16, 2);
        Check.due("P23 no miss", x.trim(3, 0), 48);
        bitsAre("P23 no miss", x, 1, 16, 16, 16);
        Check.due("P23 all of it", x.trim(3, Long.MAX_VALUE), 0);
        bitsAre("P23 all of it", x, 1, 0, 0, 0);
        // the first one takes 4 * 15, the second 2 * 15 more, the third 7 more, 3 being left
        Check.due("P23 in turn", x.trim(3, 100), 12 + 12 + 13);
        bitsAre("P23 in turn", x, 1, 12, 12, 13);
        Check.due("P23 of the second", x.trim(2, 31), 12 + 15);
        bitsAre("P23 the last does not count", x, 1, 12, 15, 0);
        x.rounding(1, 1);
        Check.due("P23 nearest", x.trim(3, 32), 12 + 16 + 16);
        bitsAre("P23 nearest", x, 1, 12, 16, 16);
        x.weight(2, 0);
        Check.due("P23 of an INPUT", x.trim(0, 0), 0);
        bitsAre("P23 INPUT keeps its bits", x, 0, 16, 0, 0, 0);
        x.cut(1);
        for (int v = 1; v < 16; v++) {
            x.work(7, 0, 0);
        }
        Check.due("P23 more than six are fine", x.trim(15, 0), 16);
    }

    private static void floors() {
        BitTuner x = chain();
        x.bits(1, 0);
        Check.due("P24 with all bits", x.floor(3), 0);
        Check.due("P24 of an INPUT", x.floor(0), 0);
        bitsAre("P24 bits stay", x, 1, 0, 16, 16);
        Check.due("P24 none", x.floor(4), Check.BAD_LONG);
        Check.due("P24 below 0", x.floor(-1), Check.BAD_LONG);
    }

    private static void gains() {
        BitTuner x = chain();
        x.bits(1, 12);
        x.bits(2, 10);
        x.bits(3, 8);
        Check.due("P25 first", x.gain(3, 1), 60);
        Check.due("P25 second", x.gain(3, 2), 126);
        Check.due("P25 third", x.gain(3, 3), 255);
        Check.due("P25 behind", x.gain(2, 3), 0);
        Check.due("P25 INPUT", x.gain(3, 0), 0);
        Check.due("P25 of an INPUT", x.gain(0, 3), 0);
        bitsAre("P25 bits stay", x, 1, 12, 10, 8);
        Check.due("P25 no v", x.gain(4, 0), Check.BAD_LONG);
        Check.due("P25 no w", x.gain(0, 4), Check.BAD_LONG);
        Check.due("P25 v below 0", x.gain(-1, 0), Check.BAD_LONG);
        Check.due("P25 w below 0", x.gain(0, -1), Check.BAD_LONG);
    }

    private static void blames() {
        BitTuner x = chain();
        Check.due("P26 no one", x.blame(3), -1);
        Check.due("P26 of an INPUT", x.blame(0), -1);
        x.bits(3, 15);
        Check.due("P26 a gain of 1", x.blame(3), 3);
        x.bits(3, 8);
        Check.due("P26 third", x.blame(3), 3);
        Check.due("P26 behind", x.blame(2), -1);
        x.bits(1, 8);
        Check.due("P26 first", x.blame(3), 1);
        x.bits(2, 7);
        Check.due("P26 511 twice is more than 255 four times", x.blame(3), 2);
        bitsAre("P26 bits stay", x, 1, 8, 7, 8);
        Check.due("P26 none", x.blame(4), -2);
        Check.due("P26 below 0", x.blame(-1), -2);
        BitTuner y = new BitTuner();
        y.input(0, 65536);
        y.work(7, 0, 0);
        y.work(7, 0, 0);
        y.work(2, 1, 2);
        y.bits(1, 5);
        y.bits(2, 5);
        Check.due("P26 of like ones the least", y.blame(3), 1);
        y.rounding(1, 1);
        Check.due("P26 the greater one", y.blame(3), 2);
    }

    private static void counts() {
        BitTuner x = chain();
        x.fixed(0);
        x.input(0, 0);
        x.weight(1, 3);
        Check.due("P27 VALUES", x.count(0), 6);
        Check.due("P27 INPUTS", x.count(1), 2);
        Check.due("P27 THE PRICE", x.count(2), 80);
        Check.due("P27 others", x.count(3), 3);
        Check.due("P27 4", x.count(4), -2);
        Check.due("P27 -1", x.count(-1), -2);
    }

    private static void digests() {
        Check.due("P28 empty", new BitTuner().digest(), 17L * 31 * 31 * 31 * 31);
        BitTuner x = chain();
        x.bits(2, 1);
        x.rounding(2, 2);
        x.weight(3, 30);
        x.set(0, 61440);
        long h = 17;
        for (int what = 0; what < 4; what++) {
            h = 31 * h + x.count(what);
        }
        for (int v = 0; v < 4; v++) {
            for (int what = 0; what < 10; what++) {
                h = 31 * h + x.about(v, what);
            }
            h = 31 * h + x.exact(v);
            h = 31 * h + x.tuned(v);
        }
        Check.due("P28 all of it", x.digest(), h);
        Check.due("P28 again", x.digest(), h);
        x.set(0, 57344);
        Check.holds("P28 another one", x.digest() != h);
    }

    private static void fullProgram() {
        BitTuner x = new BitTuner();
        for (int v = 0; v < 10; v++) {
            x.fixed(0);
        }
        for (int v = 10; v < 16; v++) {
            x.work(7, v == 10 ? 0 : v - 1, 0);
        }
        Check.due("P27 full", x.count(3), 6);
        Check.due("P22 full", x.least(15, 65535 * 5), 4 + 4);
        bitsAre("P22 full", x, 9, 16, 0, 0, 0, 0, 4, 4);
        Check.due("P22 full, exactly", x.least(15, 0), 96);
        Check.due("P23 full", x.trim(15, 65535 * 5 + 7), 13);
        bitsAre("P23 full", x, 10, 0, 0, 0, 0, 0, 13);
        Check.due("P24 full", x.floor(15), 0);
        Check.due("P25 full", x.gain(15, 15), 7);
        Check.due("P26 full", x.blame(15), 10);
        Check.due("P10 full", x.price(), 13);
        Check.due("P27 full", x.count(0), 16);
    }
}
