/** Promises 1 to 10: programs. */
public final class ProgramsTest {
    private static final int G = 4194304;

    public static void main(String[] args) {
        newObject();
        inputs();
        fixedOnes();
        workRefusals();
        degrees();
        spans();
        spanLimits();
        fullPrograms();
        cuts();
        widthsOfValues();
        aboutAll();
        bounds();
        boundLimits();
        productOfTheGreatest();
        prices();
        Check.finish();
    }

    private static void newObject() {
        BitTuner x = new BitTuner();
        Check.due("P1 count 0", x.count(0), 0);
        Check.due("P1 count 1", x.count(1), 0);
        Check.due("P1 price", x.price(), 0);
        Check.due("P1 rows", x.rows(), 1);
        Check.due("P1 about", x.about(0, 0), Check.BAD_LONG);
        Check.due("P1 worstAt", x.worstAt(0), -2);
        x.input(0, 0);
        Check.due("P1 another object has no share", new BitTuner().count(0), 0);
    }

    private static void inputs() {
        BitTuner x = new BitTuner();
        Check.due("P2 widest", x.input(-G, G), 0);
        Check.due("P2 next", x.input(4096, 4096), 1);
        Check.due("P2 low above high", x.input(4096, 0), -2);
        Check.due("P2 no multiple low", x.input(-1, 4096), -2);
        Check.due("P2 no multiple high", x.input(0, 4095), -2);
        Check.due("P2 too low", x.input(-G - 4096, 0), -2);
        Check.due("P2 too high", x.input(0, G + 4096), -2);
        Check.due("P2 least int", x.input(Integer.MIN_VALUE, 0), -2);
        Check.due("P2 greatest", x.input(0, Integer.MAX_VALUE - 4095), -2);
        Check.due("P2 refusals change nothing", x.count(0), 2);
        Check.due("P2 stands at LOW", x.exact(0), -G);
    }

    private static void fixedOnes() {
        BitTuner x = new BitTuner();
        Check.due("P3 greatest", x.fixed(G), 0);
        Check.due("P3 least", x.fixed(-G), 1);
        Check.due("P3 zero", x.fixed(0), 2);
        Check.due("P3 no multiple", x.fixed(2048), -2);
        Check.due("P3 too great", x.fixed(G + 4096), -2);
        Check.due("P3 too low", x.fixed(Integer.MIN_VALUE), -2);
        Check.due("P3 exact", x.exact(1), -G);
    }

    private static void workRefusals() {
        BitTuner x = new BitTuner();
        x.input(0, 65536);
        x.input(0, 65536);
        Check.due("P4 kind 1", x.work(1, 0, 0), -2);
        Check.due("P4 kind 0", x.work(0, 0, 0), -2);
        Check.due("P4 kind 8", x.work(8, 0, 0), -2);
        Check.due("P4 kind -1", x.work(-1, 0, 0), -2);
        for (int kind = 2; kind <= 7; kind++) {
            Check.due("P4 a behind", x.work(kind, 2, 0), -2);
            Check.due("P4 a below 0", x.work(kind, -1, 0), -2);
            Check.due("P4 b below 0", x.work(kind, 0, -1), -2);
            Check.due("P4 b behind", x.work(kind, 0, 2), -2);
            Check.due("P4 b 1", x.work(kind, 0, 1), kind <= 5 ? x.count(0) - 1 : -2);
            x.cut(2);
        }
        Check.due("P4 amount", x.work(6, 1, 0), 2);
        Check.due("P4 copy", x.work(7, 1, 0), 3);
        Check.due("P4 both the same", x.work(4, 0, 0), 4);
    }

    private static void degrees() {
        BitTuner x = new BitTuner();
        x.input(-4096, 4096);
        x.work(4, 0, 0);
        x.work(4, 1, 0);
        x.work(4, 1, 1);
        Check.due("P9 degree 1", x.about(0, 3), 1);
        Check.due("P9 degree 2", x.about(1, 3), 2);
        Check.due("P9 degree 3", x.about(2, 3), 3);
        Check.due("P9 degree 4", x.about(3, 3), 4);
        Check.due("P4 degree 5", x.work(4, 0, 3), -4);
        Check.due("P4 degree 5 again", x.work(4, 2, 1), -4);
        Check.due("P4 sum of degree 4", x.work(2, 0, 3), 4);
        Check.due("P9 sum's degree", x.about(4, 3), 4);
        x.work(5, 2, 1);
        Check.due("P9 greater's degree", x.about(5, 3), 3);
        x.work(6, 1, 0);
        Check.due("P9 amount's degree", x.about(6, 3), 2);
        x.work(7, 0, 0);
        Check.due("P9 copy's degree", x.about(7, 3), 1);
        x.work(3, 0, 1);
        Check.due("P9 less's degree", x.about(8, 3), 2);
    }

    private static void spanIs(BitTuner x, int kind, int a, int b, long low, long high) {
        int v = x.work(kind, a, b);
        Check.due("P9 least of kind " + kind, x.about(v, 7), low);
        Check.due("P9 most of kind " + kind, x.about(v, 8), high);
        x.cut(v);
    }

    private static void spans() {
        BitTuner x = new BitTuner();
        x.input(-65536, 131072);
        x.input(-262144, -196608);
        x.fixed(32768);
        x.input(65536, 131072);
        spanIs(x, 2, 0, 1, -327680, -65536);
        spanIs(x, 3, 0, 1, 131072, 393216);
        spanIs(x, 4, 0, 1, -524288, 262144);
        spanIs(x, 4, 0, 0, -131072, 262144);
        spanIs(x, 4, 1, 1, 589824, 1048576);
        spanIs(x, 4, 1, 2, -131072, -98304);
        spanIs(x, 4, 1, 0, -524288, 262144);
        spanIs(x, 4, 3, 3, 65536, 262144);
        spanIs(x, 4, 1, 3, -524288, -196608);
        spanIs(x, 4, 3, 0, -131072, 262144);
        spanIs(x, 5, 0, 1, -65536, 131072);
        spanIs(x, 5, 0, 2, 32768, 131072);
        spanIs(x, 6, 0, 0, 0, 131072);
        spanIs(x, 6, 1, 0, 196608, 262144);
        spanIs(x, 6, 3, 0, 65536, 131072);
        spanIs(x, 7, 1, 0, -262144, -196608);
        x.input(-65536, 0);
        spanIs(x, 6, 4, 0, 0, 65536);
        x.input(0, 65536);
        spanIs(x, 6, 5, 0, 0, 65536);
        Check.due("P9 fixed's least", x.about(2, 7), 32768);
        Check.due("P9 fixed's most", x.about(2, 8), 32768);
    }

    private static void spanLimits() {
        BitTuner x = new BitTuner();
        x.input(-G, G);
        for (int v = 0; v < 4; v++) {
            Check.due("P4 doubled", x.work(2, v, v), v + 1);
        }
        Check.due("P9 widest least", x.about(4, 7), -67108864);
        Check.due("P9 widest most", x.about(4, 8), 67108864);
        x.fixed(4096);
        Check.due("P4 above the most", x.work(2, 4, 5), -4);
        Check.due("P4 below the least", x.work(3, 4, 5), -4);
        Check.due("P4 copy of the widest", x.work(7, 4, 0), 6);
        Check.due("P4 greater of the widest", x.work(5, 4, 5), 7);
        x.fixed(1048576);
        x.fixed(1052672);
        Check.due("P4 product just within", x.work(4, 0, 8), 10);
        Check.due("P9 product just within", x.about(10, 8), 67108864);
        Check.due("P4 product just beyond", x.work(4, 0, 9), -4);
        Check.due("P4 refusals change nothing", x.count(0), 11);
        x.work(4, 5, 5);
        x.work(4, 11, 11);
        Check.due("P13 1 unit", x.exact(12), 1);
        Check.due("P4 1 unit above the most", x.work(2, 4, 12), -4);
        Check.due("P4 1 unit below the least", x.work(3, 4, 12), -4);
    }

    private static void fullPrograms() {
        BitTuner x = new BitTuner();
        for (int v = 0; v < 16; v++) {
            Check.due("P2 room", x.input(-G, G), v);
        }
        Check.due("P2 full", x.input(0, 0), -3);
        Check.due("P2 bad ahead of full", x.input(1, 0), -2);
        Check.due("P3 full", x.fixed(0), -3);
        Check.due("P3 bad ahead of full", x.fixed(1), -2);
        Check.due("P4 full", x.work(2, 0, 0), -3);
        Check.due("P4 bad ahead of full", x.work(2, 0, 16), -2);
        Check.due("P4 full ahead of beyond", x.work(4, 0, 0), -3);
        Check.due("P5 one gone", x.cut(15), 1);
        Check.due("P4 beyond", x.work(4, 0, 0), -4);
        Check.due("P4 the last place", x.work(2, 0, 0), 15);
        Check.due("P9 the last place", x.about(15, 8), 2 * G);
    }

    private static void cuts() {
        BitTuner x = new BitTuner();
        x.input(-4096, 4096);
        x.work(7, 0, 0);
        x.bits(1, 3);
        x.rounding(1, 2);
        x.weight(1, 9);
        x.set(0, 4096);
        Check.due("P5 below 0", x.cut(-1), -2);
        Check.due("P5 too many", x.cut(3), -2);
        Check.due("P5 none gone", x.cut(2), 0);
        Check.due("P5 one gone", x.cut(1), 1);
        Check.due("P5 it is gone", x.about(1, 0), Check.BAD_LONG);
        Check.due("P5 what stays, stays as SET", x.exact(0), 4096);
        Check.due("P4 the number is free again", x.work(6, 0, 0), 1);
        Check.due("P4 fresh bits", x.about(1, 4), 16);
        Check.due("P4 fresh rounding", x.about(1, 5), 0);
        Check.due("P4 fresh weight", x.about(1, 6), 1);
        Check.due("P5 all gone", x.cut(0), 2);
        x.input(-4096, 4096);
        Check.due("P2 a fresh INPUT is LOW", x.exact(0), -4096);
    }

    private static void widthsOfValues() {
        BitTuner x = new BitTuner();
        x.input(0, 4096);
        x.fixed(4096);
        x.work(2, 0, 1);
        Check.due("P6 first", x.bits(2, 0), 16);
        Check.due("P6 then", x.bits(2, 16), 0);
        Check.due("P6 too many", x.bits(2, 17), -2);
        Check.due("P6 too few", x.bits(2, -1), -2);
        Check.due("P6 of input", x.bits(0, 3), -2);
        Check.due("P6 of fixed", x.bits(1, 3), -2);
        Check.due("P6 of none", x.bits(3, 3), -2);
        Check.due("P6 below 0", x.bits(-1, 3), -2);
        Check.due("P6 stays", x.about(2, 4), 16);
        Check.due("P7 first", x.rounding(2, 1), 0);
        Check.due("P7 then", x.rounding(2, 2), 1);
        Check.due("P7 last", x.rounding(2, 0), 2);
        Check.due("P7 3", x.rounding(2, 3), -2);
        Check.due("P7 -1", x.rounding(2, -1), -2);
        Check.due("P7 of input", x.rounding(0, 0), -2);
        Check.due("P7 of fixed", x.rounding(1, 0), -2);
        Check.due("P7 of none", x.rounding(3, 0), -2);
        Check.due("P8 first", x.weight(2, 100), 1);
        Check.due("P8 then", x.weight(2, 0), 100);
        Check.due("P8 last", x.weight(2, 5), 0);
        Check.due("P8 101", x.weight(2, 101), -2);
        Check.due("P8 -1", x.weight(2, -1), -2);
        Check.due("P8 of input", x.weight(0, 1), -2);
        Check.due("P8 of fixed", x.weight(1, 1), -2);
        Check.due("P8 of none", x.weight(16, 1), -2);
        Check.due("P8 stays", x.about(2, 6), 5);
    }

    private static void aboutIs(BitTuner x, int v, long... wants) {
        for (int what = 0; what < wants.length; what++) {
            Check.due("P9 about(" + v + ", " + what + ")", x.about(v, what), wants[what]);
        }
    }

    private static void aboutAll() {
        BitTuner x = new BitTuner();
        x.input(-8192, 4096);
        x.fixed(12288);
        x.work(4, 1, 0);
        x.work(6, 2, 0);
        x.bits(2, 12);
        x.rounding(2, 1);
        x.weight(2, 7);
        aboutIs(x, 0, 0, -8192, 4096, 1, 16, 0, 1, -8192, 4096, 0);
        aboutIs(x, 1, 1, 12288, 0, 1, 16, 0, 1, 12288, 12288, 0);
        aboutIs(x, 2, 4, 1, 0, 2, 12, 1, 7, -1536, 768, 8);
        aboutIs(x, 3, 6, 2, 0, 2, 16, 0, 1, 0, 1536, 8);
        x.set(0, 4096);
        Check.due("P9 LOW does not follow set", x.about(0, 1), -8192);
        Check.due("P9 what 10", x.about(0, 10), Check.BAD_LONG);
        Check.due("P9 what -1", x.about(0, -1), Check.BAD_LONG);
        Check.due("P9 no value", x.about(4, 0), Check.BAD_LONG);
        Check.due("P9 below 0", x.about(-1, 0), Check.BAD_LONG);
    }

    /** A program with a BOUND of 255 (VALUE 2) and of 3 (VALUE 3) to build upon. */
    private static BitTuner missing() {
        BitTuner x = new BitTuner();
        x.input(-131072, 65536);
        x.input(-65536, 196608);
        x.work(7, 0, 0);
        x.work(7, 1, 0);
        x.bits(2, 8);
        x.bits(3, 14);
        return x;
    }

    private static void boundIs(int kind, int b, int f, int rounding, long want) {
        BitTuner x = missing();
        x.work(kind, 2, b);
        x.bits(4, f);
        x.rounding(4, rounding);
        Check.due("P9 bound of kind " + kind + ", bits " + f + ", rounding " + rounding, x.about(4, 9), want);
    }

    private static void bounds() {
        Check.due("P9 bound of a", missing().about(2, 9), 255);
        Check.due("P9 bound of b", missing().about(3, 9), 3);
        boundIs(2, 3, 16, 0, 258);
        boundIs(2, 3, 12, 0, 258 + 15);
        boundIs(2, 3, 12, 1, 258 + 8);
        boundIs(2, 3, 12, 2, 258 + 15);
        boundIs(2, 3, 16, 1, 258);
        boundIs(2, 3, 15, 1, 259);
        boundIs(2, 3, 0, 0, 258 + 65535);
        boundIs(2, 3, 0, 1, 258 + 32768);
        boundIs(3, 3, 14, 0, 258 + 3);
        boundIs(5, 3, 14, 0, 255 + 3);
        boundIs(6, 0, 14, 0, 255 + 3);
        boundIs(7, 0, 14, 2, 255 + 3);
        // 131072 * 3 + 196608 * 255 + 3 * 255 is 771 * 65536 and 765 more
        boundIs(4, 3, 16, 0, 772);
        boundIs(4, 3, 10, 1, 772 + 32);
        // without a miss of the other part the product of ends divides wholly: no rounding up
        boundIs(4, 1, 16, 0, 765);
    }

    /** A 0 that is missed by 65535, doubled so many times: VALUE 1 + times has the BOUND 65535 * 2^times. */
    private static BitTuner doubled(int times) {
        BitTuner x = new BitTuner();
        x.fixed(0);
        x.work(7, 0, 0);
        x.bits(1, 0);
        for (int v = 1; v <= times; v++) {
            x.work(2, v, v);
        }
        return x;
    }

    private static void boundLimits() {
        BitTuner x = doubled(14);
        Check.due("P9 just below the greatest", x.about(15, 9), 65535L * 16384);
        x.bits(15, 2);
        Check.due("P9 1 below the greatest", x.about(15, 9), 1073741823);
        x.rounding(15, 1);
        Check.due("P9 less, nearest", x.about(15, 9), 65535L * 16384 + 8192);
        x.bits(15, 1);
        Check.due("P9 the greatest itself", x.about(15, 9), 1073741824);
        x.rounding(15, 0);
        Check.due("P9 what would be above", x.about(15, 9), 1073741824);
        x.cut(14);
        x.work(4, 13, 0);
        Check.due("P9 times 0", x.about(14, 9), 0);
        x.work(4, 13, 13);
        Check.due("P9 a square far above", x.about(15, 9), 1073741824);
    }

    private static void productOfTheGreatest() {
        BitTuner x = doubled(10);
        x.work(4, 11, 11);
        Check.due("P9 the greatest", x.about(12, 9), 1073741824);
        x.work(4, 12, 0);
        Check.due("P9 the greatest times 0", x.about(13, 9), 1073741824);
        x.work(4, 0, 12);
        Check.due("P9 0 times the greatest", x.about(14, 9), 1073741824);
        x.work(5, 0, 12);
        Check.due("P9 the greatest handed on", x.about(15, 9), 1073741824);
    }

    private static void prices() {
        BitTuner x = new BitTuner();
        x.input(0, 4096);
        x.fixed(0);
        Check.due("P10 inputs and fixed are free", x.price(), 0);
        x.work(2, 0, 1);
        Check.due("P10 one", x.price(), 16);
        x.work(2, 0, 1);
        x.weight(2, 100);
        x.bits(3, 5);
        Check.due("P10 two", x.price(), 1605);
        x.weight(3, 0);
        Check.due("P10 weight 0", x.price(), 1600);
        x.cut(3);
        Check.due("P10 cut", x.price(), 1600);
        x.cut(2);
        Check.due("P10 cut more", x.price(), 0);
    }
}
