/** Programs and VALUES that several tests build upon. */
final class Made {
    /** The greatest number that an INPUT or a FIXED may be. */
    static final int G = 4194304;
    static final int STEP = 4096;
    static final int[] FAR_INTS = {Integer.MIN_VALUE, Integer.MIN_VALUE + 1, Integer.MAX_VALUE - 1, Integer.MAX_VALUE};

    private Made() {
    }

    static BitTuner inputs(int many) {
        BitTuner x = new BitTuner();
        for (int v = 0; v < many; v++) {
            x.input(-STEP, STEP);
        }
        return x;
    }

    /** INPUT 0, FIXED 1, INPUT 2, SUM 3, TIMES 4, each told otherwise than at first; the worst ROW of 4 is told. */
    static BitTuner rich() {
        BitTuner x = new BitTuner();
        x.input(-8192, 12288);
        x.fixed(20480);
        x.input(-STEP, STEP);
        x.work(2, 0, 1);
        x.work(4, 3, 2);
        x.set(0, 8192);
        x.set(2, STEP);
        x.bits(3, 3);
        x.rounding(3, 1);
        x.weight(3, 7);
        x.bits(4, 5);
        x.rounding(4, 2);
        x.weight(4, 9);
        x.worst(4);
        return x;
    }

    /** rich() with COPIES of its INPUT 0 until there are 16 VALUES. */
    static BitTuner full() {
        BitTuner x = rich();
        for (int v = 5; v < 16; v++) {
            x.work(7, 0, 0);
        }
        return x;
    }

    /** rich() with one INPUT more, which makes ROWS too many to go through. */
    static BitTuner manyRows() {
        BitTuner x = rich();
        x.input(-G, G);
        return x;
    }

    /** Three VALUES more, the last one of DEGREE 4, EXACTLY and TUNED 1 UNIT: its number. */
    static int unit(BitTuner x) {
        int sixteenth = x.fixed(STEP);
        int square = x.work(4, sixteenth, sixteenth);
        return x.work(4, square, square);
    }

    /** Three VALUES more, the last one a FIXED less its rounded COPY, or the other way round: EXACTLY 0, no SPAN. */
    static int away(BitTuner x, int units, boolean below) {
        int whole = x.fixed(units);
        int rounded = x.work(7, whole, 0);
        x.bits(rounded, 0);
        return below ? x.work(3, rounded, whole) : x.work(3, whole, rounded);
    }

    /** VALUE 9 is EXACTLY 0 and TUNED 2147483648 or its negative, VALUE 3 is 64, VALUE 12 is 1 UNIT. */
    static BitTuner atTheEnd(boolean below) {
        BitTuner x = new BitTuner();
        away(x, 32768, below);
        x.fixed(G);
        x.work(4, 2, 3);
        x.work(4, 4, 3);
        for (int v = 5; v < 9; v++) {
            x.work(2, v, v);
        }
        unit(x);
        return x;
    }
}
