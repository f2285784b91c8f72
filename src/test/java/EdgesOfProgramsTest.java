import java.util.function.IntUnaryOperator;

/** The boundary cases of promises 1 to 10; one method for each sentence. */
public final class EdgesOfProgramsTest {
    public static void main(String[] args) {
        noValues();
        inputMore();
        fixedMore();
        kindsFromTwoToSeven();
        bIsZero();
        workRefused();
        cuts();
        cutValuesAreGone();
        cutRefused();
        bitsOfSuchAOne();
        roundingOfSuchAOne();
        weightOfSuchAOne();
        aboutFromZeroToNine();
        aboutInput();
        aboutFixed();
        aboutOthers();
        price();
        Check.finish();
    }

    private static void noValues() {
        Sentence.is("`BitTuner()`: No VALUES.");
        BitTuner x = new BitTuner();
        Sentence.due("count(0)", x.count(0), 0);
        Sentence.due("count(1)", x.count(1), 0);
        Sentence.due("count(2)", x.count(2), 0);
        Sentence.due("count(3)", x.count(3), 0);
        Sentence.due("price()", x.price(), 0);
        Sentence.due("rows()", x.rows(), 1);
        Sentence.due("digest()", x.digest(), 15699857);
        noneOf(x, 0);
        noneOf(new BitTuner(), -1);
        x.input(0, 0);
        Sentence.due("an object has no share in another's VALUES", new BitTuner().count(0), 0);
    }

    /** Every call that names a VALUE is refused where there is no such VALUE. */
    private static void noneOf(BitTuner x, int v) {
        Sentence.due("work", x.work(2, v, v), -2);
        Sentence.due("bits", x.bits(v, 0), -2);
        Sentence.due("rounding", x.rounding(v, 0), -2);
        Sentence.due("weight", x.weight(v, 0), -2);
        Sentence.due("about", x.about(v, 0), Check.BAD_LONG);
        Sentence.due("set", x.set(v, 0), -2);
        Sentence.due("enter", x.enter(v, 0.0), -2);
        Sentence.due("exact", x.exact(v), Check.BAD_LONG);
        Sentence.due("tuned", x.tuned(v), Check.BAD_LONG);
        Sentence.due("miss", x.miss(v), Check.BAD_LONG);
        Sentence.dueNumber("leave", x.leave(v), 0.0);
        Sentence.dueNumber("narrow", x.narrow(v), 0.0);
        Sentence.due("worst", x.worst(v), Check.BAD_LONG);
        Sentence.due("worstAt", x.worstAt(v), -2);
        Sentence.due("above", x.above(v, 0), -2);
        Sentence.due("least", x.least(v, 0), -2);
        Sentence.due("trim", x.trim(v, 0), -2);
        Sentence.due("floor", x.floor(v), Check.BAD_LONG);
        Sentence.due("gain", x.gain(v, v), Check.BAD_LONG);
        Sentence.due("blame", x.blame(v), -2);
    }

    private static void inputMore() {
        Sentence.is("`int input(int low, int high)`: An INPUT more: its number. BAD; FULL.");
        BitTuner x = new BitTuner();
        for (int v = 0; v < 16; v++) {
            Sentence.due("the number of INPUT " + v, x.input(-4096, v * 4096), v);
            Sentence.due("one INPUT more", x.count(1), v + 1);
        }
        Sentence.refused(Made::rich, "BAD: LOW above HIGH", y -> y.input(4096, 0), -2);
        Sentence.refused(Made::full, "FULL", y -> y.input(0, 4096), -3);
        Sentence.refused(Made::full, "BAD, FULL too", y -> y.input(4096, 0), -2);
    }

    private static void fixedMore() {
        Sentence.is("`int fixed(int c)`: A FIXED one more: its number. BAD; FULL.");
        BitTuner x = new BitTuner();
        for (int v = 0; v < 16; v++) {
            Sentence.due("the number of FIXED " + v, x.fixed(v * 4096), v);
            Sentence.due("one VALUE more", x.count(0), v + 1);
        }
        Sentence.due("no INPUT more", x.count(1), 0);
        Sentence.refused(Made::rich, "BAD: no multiple", y -> y.fixed(4097), -2);
        Sentence.refused(Made::full, "FULL", y -> y.fixed(4096), -3);
        Sentence.refused(Made::full, "BAD, FULL too", y -> y.fixed(4097), -2);
    }

    private static void kindsFromTwoToSeven() {
        Sentence.is("`int work(int kind, int a, int b)`: A VALUE of a KIND 2 to 7 more: its number.");
        BitTuner x = Made.inputs(1);
        for (int kind = 2; kind <= 7; kind++) {
            Sentence.due("the number of kind " + kind, x.work(kind, 0, 0), kind - 1);
            Sentence.due("its KIND", x.about(kind - 1, 0), kind);
        }
        for (int kind : new int[] {Integer.MIN_VALUE, -1, 0, 1, 8, 9, Integer.MAX_VALUE}) {
            Sentence.refused(Made::rich, "kind " + kind, y -> y.work(kind, 0, 0), -2);
        }
    }

    private static void bIsZero() {
        Sentence.is("b is 0 where it does not count.");
        for (int kind = 6; kind <= 7; kind++) {
            int k = kind;
            BitTuner x = Made.rich();
            Sentence.due("b 0, kind " + k, x.work(k, 1, 0), 5);
            Sentence.due("b told, kind " + k, x.about(5, 2), 0);
            for (int b : new int[] {Integer.MIN_VALUE, -1, 1, 4, 5, 16, Integer.MAX_VALUE}) {
                Sentence.refused(Made::rich, "b " + b + ", kind " + k, y -> y.work(k, 1, b), -2);
            }
        }
        for (int kind = 2; kind <= 5; kind++) {
            Sentence.due("b counts, kind " + kind, Made.rich().work(kind, 1, 2), 5);
        }
    }

    /** A full program in which VALUE 0 is 64, so that its square is beyond a SPAN. */
    private static BitTuner fullOfGreatOnes() {
        BitTuner x = new BitTuner();
        for (int v = 0; v < 16; v++) {
            x.fixed(Made.G);
        }
        return x;
    }

    private static BitTuner oneGreat() {
        BitTuner x = Made.rich();
        x.fixed(Made.G);
        return x;
    }

    private static void workRefused() {
        Sentence.is("b is 0 where it does not count. BAD; FULL; BEYOND.");
        Sentence.refused(EdgesOfProgramsTest::oneGreat, "BEYOND", x -> x.work(4, 5, 5), -4);
        Sentence.refused(EdgesOfProgramsTest::fullOfGreatOnes, "FULL, not beyond", x -> x.work(2, 0, 0), -3);
        Sentence.refused(EdgesOfProgramsTest::fullOfGreatOnes, "FULL, BEYOND too", x -> x.work(4, 0, 0), -3);
        Sentence.refused(EdgesOfProgramsTest::fullOfGreatOnes, "BAD a, FULL too", x -> x.work(4, 16, 0), -2);
        Sentence.refused(EdgesOfProgramsTest::fullOfGreatOnes, "BAD b, FULL too", x -> x.work(4, 0, 16), -2);
        Sentence.refused(EdgesOfProgramsTest::fullOfGreatOnes, "BAD kind, FULL too", x -> x.work(8, 0, 0), -2);
        Sentence.refused(EdgesOfProgramsTest::fullOfGreatOnes, "BAD b 1, FULL too", x -> x.work(7, 0, 1), -2);
        BitTuner x = fullOfGreatOnes();
        x.cut(15);
        Sentence.due("BEYOND in the last place", x.work(4, 0, 0), -4);
        Sentence.due("the last place", x.work(2, 0, 0), 15);
        Sentence.due("starts anew after a refusal", x.about(15, 3), 1);
    }

    private static void cuts() {
        Sentence.is("`int cut(int many)`: The latest VALUES are gone, down to so many: how many are gone. BAD.");
        for (int many = 0; many <= 16; many++) {
            BitTuner x = Made.full();
            Sentence.due("cut(" + many + ")", x.cut(many), 16 - many);
            Sentence.due("so many are left", x.count(0), many);
        }
        Sentence.due("of none down to none", new BitTuner().cut(0), 0);
        BitTuner x = Made.full();
        Sentence.due("by one", x.cut(15), 1);
        Sentence.due("again down to as many", x.cut(15), 0);
    }

    private static void cutValuesAreGone() {
        Sentence.is("The latest VALUES are gone, down to so many:");
        BitTuner x = Made.rich();
        x.cut(3);
        noneOf(x, 4);
        Sentence.due("the first that is gone", x.about(3, 0), Check.BAD_LONG);
        Sentence.due("the last that is left", x.about(2, 0), 0);
        Sentence.due("it stays as SET", x.exact(2), 4096);
        Sentence.due("INPUTS left", x.count(1), 2);
        Sentence.due("no PRICE is left", x.price(), 0);
        Sentence.due("its number is free", x.work(3, 0, 1), 3);
        Sentence.due("BITS begin anew", x.about(3, 4), 16);
        Sentence.due("ROUNDING begins anew", x.about(3, 5), 0);
        Sentence.due("WEIGHT begins anew", x.about(3, 6), 1);
        x.cut(0);
        Sentence.due("an INPUT", x.input(-4096, 4096), 0);
        Sentence.due("it is LOW anew", x.exact(0), -4096);
        x.cut(0);
        x.fixed(8192);
        Sentence.due("of a FIXED BITS are 16", x.about(0, 4), 16);
        Sentence.due("of a FIXED WEIGHT is 1", x.about(0, 6), 1);
    }

    private static void cutRefused() {
        Sentence.is("down to so many: how many are gone. BAD.");
        Sentence.refused(Made::rich, "one more than there are", x -> x.cut(6), -2);
        Sentence.refused(Made::rich, "-1", x -> x.cut(-1), -2);
        Sentence.refused(Made::rich, "16", x -> x.cut(16), -2);
        Sentence.refused(Made::full, "17", x -> x.cut(17), -2);
        Sentence.refused(BitTuner::new, "1 of none", x -> x.cut(1), -2);
        for (int far : Made.FAR_INTS) {
            Sentence.refused(Made::rich, "cut(" + far + ")", x -> x.cut(far), -2);
        }
    }

    private interface Told {
        int tell(BitTuner x, int v);
    }

    /** Of rich(): INPUTS 0, 2 and FIXED 1 are refused, and so is what is no VALUE. */
    private static void onlyWorkedOnes(Told told) {
        for (int v : new int[] {Integer.MIN_VALUE, -1, 0, 1, 2, 5, 15, 16, Integer.MAX_VALUE}) {
            Sentence.refused(Made::rich, "of VALUE " + v, x -> told.tell(x, v), -2);
        }
        Sentence.refused(Made::full, "of VALUE 16 of 16", x -> told.tell(x, 16), -2);
    }

    /** Tells VALUE 4 of rich() numbers one behind the other; each call answers what the one before told. */
    private static void whatItWas(Told[] calls, int[] answers, int what) {
        BitTuner x = Made.rich();
        long other = x.about(3, what);
        for (int i = 0; i < calls.length; i++) {
            Sentence.due("call " + i + " answers what was", calls[i].tell(x, 4), answers[i]);
        }
        Sentence.due("another VALUE keeps its own", x.about(3, what), other);
    }

    private static void bitsOfSuchAOne() {
        Sentence.is("`int bits(int v, int f)`: BITS of a VALUE that is no INPUT, no FIXED: what they were. BAD.");
        Told[] calls = {(x, v) -> x.bits(v, 0), (x, v) -> x.bits(v, 17), (x, v) -> x.bits(v, 16),
            (x, v) -> x.bits(v, -1), (x, v) -> x.bits(v, 16)};
        whatItWas(calls, new int[] {5, -2, 0, -2, 16}, 4);
        onlyWorkedOnes((x, v) -> x.bits(v, 16));
        onlyWorkedOnes((x, v) -> x.bits(v, 3));
        lastOf(v -> Made.full().bits(v, 0), 16);
    }

    private static void roundingOfSuchAOne() {
        Sentence.is("`int rounding(int v, int kind)`: ROUNDING of such a one: what it was. BAD.");
        Told[] calls = {(x, v) -> x.rounding(v, 0), (x, v) -> x.rounding(v, 3), (x, v) -> x.rounding(v, 2),
            (x, v) -> x.rounding(v, -1), (x, v) -> x.rounding(v, 1)};
        whatItWas(calls, new int[] {2, -2, 0, -2, 2}, 5);
        onlyWorkedOnes((x, v) -> x.rounding(v, 0));
        onlyWorkedOnes((x, v) -> x.rounding(v, 1));
        lastOf(v -> Made.full().rounding(v, 2), 0);
    }

    private static void weightOfSuchAOne() {
        Sentence.is("`int weight(int v, int w)`: WEIGHT of such a one: what it was. BAD.");
        Told[] calls = {(x, v) -> x.weight(v, 0), (x, v) -> x.weight(v, 101), (x, v) -> x.weight(v, 100),
            (x, v) -> x.weight(v, -1), (x, v) -> x.weight(v, 1)};
        whatItWas(calls, new int[] {9, -2, 0, -2, 100}, 6);
        onlyWorkedOnes((x, v) -> x.weight(v, 1));
        onlyWorkedOnes((x, v) -> x.weight(v, 50));
        lastOf(v -> Made.full().weight(v, 0), 1);
    }

    private static void lastOf(IntUnaryOperator call, int want) {
        Sentence.due("of the last VALUE that can be", call.applyAsInt(15), want);
    }

    private static void aboutFromZeroToNine() {
        Sentence.is("`long about(int v, int what)`: Of a VALUE: 0 KIND,");
        for (int what : new int[] {Integer.MIN_VALUE, -1, 10, 11, Integer.MAX_VALUE}) {
            Sentence.refused(Made::rich, "what " + what, x -> x.about(4, what), Check.BAD_LONG);
        }
        Sentence.is("7 LEAST, 8 MOST, 9 THE BOUND. BAD.");
        for (int v : new int[] {Integer.MIN_VALUE, -1, 5, 15, 16, Integer.MAX_VALUE}) {
            for (int what = 0; what <= 9; what++) {
                int w = what;
                Sentence.refused(Made::rich, "VALUE " + v + ", what " + w, x -> x.about(v, w), Check.BAD_LONG);
            }
        }
        BitTuner x = Made.full();
        Sentence.due("the last VALUE that can be", x.about(15, 0), 7);
        Sentence.due("one more", x.about(16, 0), Check.BAD_LONG);
        Sentence.due("BAD twice", x.about(16, 10), Check.BAD_LONG);
    }

    private static void aboutIs(BitTuner x, int v, long... wants) {
        for (int what = 0; what < wants.length; what++) {
            Sentence.due("about(" + v + ", " + what + ")", x.about(v, what), wants[what]);
        }
    }

    private static void aboutInput() {
        Sentence.is("1 a, 2 b (VALUES; of INPUT LOW, HIGH;");
        BitTuner x = new BitTuner();
        x.input(-Made.G, Made.G);
        x.input(4096, 4096);
        x.set(0, 0);
        aboutIs(x, 0, 0, -Made.G, Made.G, 1, 16, 0, 1, -Made.G, Made.G, 0);
        aboutIs(x, 1, 0, 4096, 4096, 1, 16, 0, 1, 4096, 4096, 0);
    }

    private static void aboutFixed() {
        Sentence.is("of FIXED it and 0;");
        BitTuner x = new BitTuner();
        x.fixed(-Made.G);
        x.fixed(0);
        aboutIs(x, 0, 1, -Made.G, 0, 1, 16, 0, 1, -Made.G, -Made.G, 0);
        aboutIs(x, 1, 1, 0, 0, 1, 16, 0, 1, 0, 0, 0);
    }

    private static void aboutOthers() {
        Sentence.is("else 0), 3 DEGREE, 4 BITS, 5 ROUNDING, 6 WEIGHT (of INPUT, FIXED 16, 0, 1),");
        BitTuner x = Made.rich();
        aboutIs(x, 0, 0, -8192, 12288, 1, 16, 0, 1, -8192, 12288, 0);
        aboutIs(x, 1, 1, 20480, 0, 1, 16, 0, 1, 20480, 20480, 0);
        // NEAREST, U 8192: R 4096
        aboutIs(x, 3, 2, 0, 1, 1, 3, 1, 7, 12288, 32768, 4096);
        // Q 4096 times A 4096 by 65536: 256, and R 2047
        aboutIs(x, 4, 4, 3, 2, 2, 5, 2, 9, -2048, 2048, 2303);
        x.work(6, 4, 0);
        x.work(7, 3, 0);
        aboutIs(x, 5, 6, 4, 0, 2, 16, 0, 1, 0, 2048, 2303);
        aboutIs(x, 6, 7, 3, 0, 1, 16, 0, 1, 12288, 32768, 4096);
    }

    private static void price() {
        Sentence.is("`int price()`: THE PRICE.");
        Sentence.due("of none", new BitTuner().price(), 0);
        Sentence.due("of INPUTS", Made.inputs(16).price(), 0);
        Sentence.due("of 7 times 3 and 9 times 5", Made.rich().price(), 66);
        Sentence.due("of a full one", Made.full().price(), 66 + 11 * 16);
    }
}
