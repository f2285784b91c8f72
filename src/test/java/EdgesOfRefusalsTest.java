import java.util.LinkedHashMap;
import java.util.Map;
import java.util.function.Supplier;
import java.util.function.ToLongFunction;

/** The boundary cases of "Refusals, the first that fits", of what they leave, and of an object's 512 calls. */
public final class EdgesOfRefusalsTest {
    private static final int CALLS = 512;

    public static void main(String[] args) {
        badAheadOfFull();
        fullAheadOfBeyond();
        badAheadOfBeyond();
        beyondByDegreeAndBySpan();
        badAheadOfNot();
        theyChangeNothing();
        longRefusals();
        lastCalls();
        dearCalls();
        Check.finish();
    }

    private static BitTuner fullOfGreatOnes() {
        BitTuner x = new BitTuner();
        for (int v = 0; v < 16; v++) {
            x.input(-Made.G, Made.G);
        }
        return x;
    }

    private static void badAheadOfFull() {
        Sentence.is("Refusals, the first that fits: BAD -2 (a number not as told, no such thing), FULL -3,");
        Supplier<BitTuner> full = EdgesOfRefusalsTest::fullOfGreatOnes;
        Sentence.refused(full, "input, both", x -> x.input(0, 1), -2);
        Sentence.refused(full, "input, FULL", x -> x.input(0, 0), -3);
        Sentence.refused(full, "fixed, both", x -> x.fixed(1), -2);
        Sentence.refused(full, "fixed, FULL", x -> x.fixed(0), -3);
        Sentence.refused(full, "work, both by its kind", x -> x.work(1, 0, 0), -2);
        Sentence.refused(full, "work, both by a", x -> x.work(2, 16, 0), -2);
        Sentence.refused(full, "work, both by b", x -> x.work(2, 0, 16), -2);
        Sentence.refused(full, "work, both by b that does not count", x -> x.work(6, 0, 1), -2);
        Sentence.refused(full, "work, FULL", x -> x.work(2, 0, 0), -3);
    }

    private static void fullAheadOfBeyond() {
        Sentence.is("FULL -3, BEYOND -4 (a DEGREE, a SPAN),");
        Sentence.refused(EdgesOfRefusalsTest::fullOfGreatOnes, "a SPAN beyond, FULL too", x -> x.work(4, 0, 0), -3);
        Supplier<BitTuner> degrees = () -> {
            BitTuner x = Made.inputs(13);
            x.work(4, 0, 0);
            x.work(4, 13, 13);
            x.fixed(0);
            return x;
        };
        Sentence.refused(degrees, "a DEGREE beyond, FULL too", x -> x.work(4, 14, 0), -3);
        BitTuner x = degrees.get();
        x.cut(15);
        Sentence.due("a DEGREE beyond", x.work(4, 14, 0), -4);
        Sentence.due("a DEGREE of 4", x.work(4, 13, 13), 15);
    }

    private static void badAheadOfBeyond() {
        Sentence.is("Refusals, the first that fits:");
        Supplier<BitTuner> great = () -> {
            BitTuner x = new BitTuner();
            x.input(-Made.G, Made.G);
            return x;
        };
        Sentence.refused(great, "a SPAN beyond", x -> x.work(4, 0, 0), -4);
        Sentence.refused(great, "no such b", x -> x.work(4, 0, 1), -2);
        Sentence.refused(great, "no such a", x -> x.work(4, 1, 0), -2);
    }

    private static void beyondByDegreeAndBySpan() {
        Sentence.is("BEYOND -4 (a DEGREE, a SPAN),");
        Supplier<BitTuner> great = () -> {
            BitTuner x = new BitTuner();
            x.input(-65536 * 16, 65536 * 16);
            x.work(4, 0, 0);
            x.fixed(4096);
            x.work(4, 2, 2);
            x.work(4, 3, 3);
            return x;
        };
        Sentence.refused(great, "by its DEGREE alone", x -> x.work(4, 4, 2), -4);
        Sentence.refused(great, "by its SPAN alone", x -> x.work(4, 1, 0), -4);
        Sentence.refused(great, "by both", x -> x.work(4, 4, 1), -4);
        Sentence.due("by none", great.get().work(4, 1, 3), 5);
    }

    private static void badAheadOfNot() {
        Sentence.is("NOT -5 (as told).");
        Sentence.refused(Made::manyRows, "worst, both", x -> x.worst(16), Check.BAD_LONG);
        Sentence.refused(Made::manyRows, "worst, NOT", x -> x.worst(0), Check.NOT_LONG);
        Sentence.refused(Made::manyRows, "above, both", x -> x.above(16, 0), -2);
        Sentence.refused(Made::manyRows, "above, NOT", x -> x.above(0, 0), -5);
        Sentence.refused(Made::full, "least, both by v", x -> x.least(16, 0), -2);
        Sentence.refused(Made::full, "least, both by m", x -> x.least(0, -1), -2);
        Sentence.refused(Made::full, "least, NOT", x -> x.least(0, 0), -5);
    }

    /** Each call that can be refused, refused for each of its arguments, on a program of its own. */
    private static void theyChangeNothing() {
        Sentence.is("They change nothing.");
        Map<String, ToLongFunction<BitTuner>> bad = new LinkedHashMap<>();
        bad.put("input(1, 0)", x -> x.input(1, 0));
        bad.put("input(0, 1)", x -> x.input(0, 1));
        bad.put("fixed(1)", x -> x.fixed(1));
        bad.put("work(8, 0, 0)", x -> x.work(8, 0, 0));
        bad.put("work(2, 16, 0)", x -> x.work(2, 16, 0));
        bad.put("work(2, 0, 16)", x -> x.work(2, 0, 16));
        bad.put("cut(17)", x -> x.cut(17));
        bad.put("cut(-1)", x -> x.cut(-1));
        bad.put("bits(0, 3)", x -> x.bits(0, 3));
        bad.put("bits(3, 17)", x -> x.bits(3, 17));
        bad.put("rounding(0, 1)", x -> x.rounding(0, 1));
        bad.put("rounding(3, 3)", x -> x.rounding(3, 3));
        bad.put("weight(0, 2)", x -> x.weight(0, 2));
        bad.put("weight(3, 101)", x -> x.weight(3, 101));
        bad.put("set(1, 0)", x -> x.set(1, 0));
        bad.put("set(0, 1)", x -> x.set(0, 1));
        bad.put("set(0, 16384)", x -> x.set(0, 16384));
        bad.put("enter(1, 0.0)", x -> x.enter(1, 0.0));
        bad.put("enter(0, 0.25)", x -> x.enter(0, 0.25));
        bad.put("worstAt(16)", x -> x.worstAt(16));
        bad.put("above(16, 0)", x -> x.above(16, 0));
        bad.put("least(16, 0)", x -> x.least(16, 0));
        bad.put("least(4, -1)", x -> x.least(4, -1));
        bad.put("trim(16, 0)", x -> x.trim(16, 0));
        bad.put("trim(4, -1)", x -> x.trim(4, -1));
        bad.put("blame(16)", x -> x.blame(16));
        bad.put("count(4)", x -> x.count(4));
        bad.forEach((call, asked) -> {
            Sentence.refused(Made::rich, call, asked, -2);
            Sentence.refused(Made::full, call + " of 16", asked, -2);
            Sentence.refused(Made::manyRows, call + " of many ROWS", asked, -2);
        });
    }

    private static void longRefusals() {
        Sentence.is("Where the answer is a long, they are the least long and 2, 3, 4, 5 more.");
        long bad = -9223372036854775806L;
        Map<String, ToLongFunction<BitTuner>> calls = new LinkedHashMap<>();
        calls.put("about", x -> x.about(16, 0));
        calls.put("about, what", x -> x.about(0, 10));
        calls.put("exact", x -> x.exact(16));
        calls.put("tuned", x -> x.tuned(16));
        calls.put("miss", x -> x.miss(16));
        calls.put("worst", x -> x.worst(16));
        calls.put("floor", x -> x.floor(16));
        calls.put("gain, v", x -> x.gain(16, 0));
        calls.put("gain, w", x -> x.gain(0, 16));
        calls.forEach((call, asked) -> {
            Sentence.refused(Made::rich, call, asked, bad);
            Sentence.refused(BitTuner::new, call + " of none", asked, bad);
        });
        Sentence.refused(Made::manyRows, "NOT", x -> x.worst(0), -9223372036854775803L);
    }

    /** The answer to the 512th call is still due, whatever the 511 calls ahead of it were. */
    private static void lastCalls() {
        Sentence.is("An object is used for at most 512 calls after it has been made; what later calls answer is free.");
        BitTuner x = new BitTuner();
        for (int call = 1; call < CALLS - 2; call++) {
            x.input(1, 0);
        }
        Sentence.due("call 510", x.input(-4096, 4096), 0);
        Sentence.due("call 511", x.set(0, 4096), 1);
        Sentence.due("call 512", x.exact(0), 4096);
        BitTuner y = new BitTuner();
        int calls = 0;
        while (calls < CALLS - 32) {
            y.cut(0);
            for (int v = 0; v < 16; v++) {
                y.input(v * 4096, v * 4096);
            }
            calls += 17;
        }
        for (; calls < CALLS - 1; calls++) {
            y.rows();
        }
        Sentence.due("filled again and again, call 512", y.exact(15), 61440);
    }

    private static void dearCalls() {
        Sentence.is("An object is used for at most 512 calls after it has been made;");
        BitTuner x = new BitTuner();
        x.input(-Made.G, -Made.G + 1999 * 4096);
        x.input(0, 4096);
        for (int v = 2; v < 16; v++) {
            x.work(v == 2 ? 2 : 7, v - 1, 0);
        }
        x.bits(15, 0);
        for (int call = 17; call < CALLS - 1; call += 2) {
            x.worst(15);
            x.above(15, 0);
        }
        Sentence.due("4000 ROWS gone through each time", x.worst(15), 61440);
        BitTuner y = Made.inputs(10);
        for (int v = 10; v < 16; v++) {
            y.work(7, v - 1, 0);
        }
        for (int call = 16; call < CALLS - 1; call++) {
            y.least(15, 0);
        }
        Sentence.due("all choices gone through each time", y.least(15, 15), 16 * 5 + 12);
    }
}
