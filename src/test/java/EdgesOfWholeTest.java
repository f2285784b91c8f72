import java.util.ArrayList;
import java.util.Arrays;
import java.util.List;
import java.util.Random;

/**
 * What the document says of the class as a whole, before its terms: each part of that sentence over many programs,
 * compared with nothing but other calls of the class itself.
 */
public final class EdgesOfWholeTest {
    private static final int DOWN = 0, NEAREST = 1;
    private static final int STEP = 4096;
    private static final long GREATEST = 1073741824;

    /** What a program is told by; a new object is made of it for each ROW, as calls are few (512 an object). */
    private static final class Recipe {
        final int[][] values;

        Recipe(int[][] values) {
            this.values = values;
        }

        BitTuner make() {
            BitTuner x = new BitTuner();
            for (int[] value : values) {
                if (value[0] == 0) {
                    x.input(value[1], value[2]);
                } else if (value[0] == 1) {
                    x.fixed(value[1]);
                } else {
                    int v = x.work(value[0], value[1], value[2]);
                    x.bits(v, value[3]);
                    x.rounding(v, value[4]);
                    x.weight(v, value[5]);
                }
            }
            return x;
        }
    }

    public static void main(String[] args) {
        sumsAndProducts();
        brokenBits();
        boundsHold();
        inputsGoneThrough();
        cheapest();
        comeInAndGoOut();
        objectsApart();
        Check.finish();
    }

    private static void sumsAndProducts() {
        Sentence.is("A tuner of widths: programs of sums and products over told spans;");
        int[] ends = {-Made.G / 4, -5 * STEP, 0, STEP, Made.G / 4};
        for (int a : ends) {
            for (int b : ends) {
                BitTuner x = new BitTuner();
                x.input(a, a);
                x.input(b, b);
                int both = x.work(4, x.work(2, 0, 1), x.work(3, 0, 1));
                int apart = x.work(3, x.work(4, 0, 0), x.work(4, 1, 1));
                Sentence.due("(a + b)(a - b) of " + a + ", " + b, x.exact(both), x.exact(apart));
                Sentence.due("by whole numbers", x.exact(both), ((long) a * a - (long) b * b) / 65536);
                Sentence.due("with all BITS, TUNED", x.tuned(both), x.exact(both));
            }
        }
    }

    /** VALUE 4 is of DEGREE 4 and of both signs; VALUE 5 is its COPY. */
    private static BitTuner fine(int units) {
        BitTuner x = new BitTuner();
        x.input(-65536, 65536);
        x.set(0, units);
        x.fixed(3 * STEP);
        x.work(4, 0, 0);
        x.work(4, 2, 0);
        x.work(4, 3, 1);
        x.work(7, 4, 0);
        return x;
    }

    private static void brokenBits() {
        Sentence.is("each value given so many broken bits, rounded in told ways;");
        for (int units = -65536; units <= 65536; units += STEP) {
            BitTuner x = fine(units);
            long exact = x.exact(5);
            for (int f = 0; f <= 16; f++) {
                x.bits(5, f);
                for (int rounding = 0; rounding <= 2; rounding++) {
                    x.rounding(5, rounding);
                    roundedAsTold(exact, x.tuned(5), 65536 >> f, rounding);
                }
            }
        }
    }

    private static void roundedAsTold(long exact, long tuned, long u, int rounding) {
        String call = exact + " in steps of " + u + ", rounding " + rounding + ", is " + tuned;
        long up = tuned - exact;
        Sentence.due("a multiple: " + call, tuned % u, 0);
        if (rounding == DOWN) {
            Sentence.holds("the next one below: " + call, up <= 0 && up > -u);
        } else if (rounding == NEAREST) {
            Sentence.holds("the nearest, or the greater of two: " + call, 2 * up <= u && 2 * up > -u);
        } else {
            boolean isNext = exact < 0 ? up >= 0 && up < u : up <= 0 && up > -u;
            Sentence.holds("the next one toward 0: " + call, isNext);
        }
    }

    /** Two INPUTS with few ROWS, a FIXED and so many worked VALUES, each told BITS, ROUNDING, WEIGHT. */
    private static Recipe randomRecipe(Random random, int worked) {
        List<int[]> values = new ArrayList<>();
        for (int v = 0; v < 2; v++) {
            int low = (random.nextInt(65) - 32) * STEP;
            values.add(new int[] {0, low, low + random.nextInt(6) * STEP});
        }
        values.add(new int[] {1, (random.nextInt(65) - 32) * STEP, 0});
        BitTuner x = new Recipe(values.toArray(new int[0][])).make();
        // a work that is BEYOND is not told; there are kinds that never are
        for (int tries = 0; x.count(3) < worked && tries < 200; tries++) {
            int kind = 2 + random.nextInt(6);
            int a = random.nextInt(x.count(0));
            int b = kind > 5 ? 0 : random.nextInt(x.count(0));
            if (x.work(kind, a, b) >= 0) {
                values.add(new int[] {kind, a, b, random.nextInt(17), random.nextInt(3), random.nextInt(4)});
            }
        }
        return new Recipe(values.toArray(new int[0][]));
    }

    /** An object for each ROW, in their order. */
    private static List<BitTuner> rowsOf(Recipe recipe) {
        List<BitTuner> all = new ArrayList<>();
        int[] first = recipe.values[0];
        int[] second = recipe.values[1];
        for (int a = first[1]; a <= first[2]; a += STEP) {
            for (int b = second[1]; b <= second[2]; b += STEP) {
                BitTuner x = recipe.make();
                x.set(0, a);
                x.set(1, b);
                all.add(x);
            }
        }
        return all;
    }

    private static void boundsHold() {
        Sentence.is("bounds of what is missed that hold for every run;");
        Random random = new Random(1);
        int bounding = 0;
        for (int program = 0; program < 200; program++) {
            for (BitTuner x : rowsOf(randomRecipe(random, 8))) {
                for (int v = 0; v < x.count(0); v++) {
                    long bound = x.about(v, 9);
                    bounding += bound > 0 && bound < GREATEST ? 1 : 0;
                    String which = "program " + program + ", VALUE " + v;
                    Sentence.holds(which + " missed by " + x.miss(v) + ", bound " + bound,
                            bound == GREATEST || x.miss(v) <= bound);
                    Sentence.holds(which + " lies in its SPAN",
                            x.exact(v) >= x.about(v, 7) && x.exact(v) <= x.about(v, 8));
                }
            }
        }
        Sentence.holds("that most of the bounds say something: " + bounding, bounding > 10000);
    }

    private static void inputsGoneThrough() {
        Sentence.is("all inputs gone through where they are few;");
        Random random = new Random(2);
        for (int program = 0; program < 200; program++) {
            Recipe recipe = randomRecipe(random, 8);
            List<BitTuner> rows = rowsOf(recipe);
            BitTuner x = recipe.make();
            Sentence.due("rows() of " + program, x.rows(), rows.size());
            for (int v = 0; v < x.count(0); v++) {
                goneThrough("program " + program + ", VALUE " + v, x, v, rows);
            }
        }
    }

    private static void goneThrough(String call, BitTuner x, int v, List<BitTuner> rows) {
        long[] misses = rows.stream().mapToLong(row -> row.miss(v)).toArray();
        int worst = 0;
        for (int row = 1; row < misses.length; row++) {
            worst = misses[row] > misses[worst] ? row : worst;
        }
        long m = misses[misses.length / 2];
        Sentence.due("worst, " + call, x.worst(v), misses[worst]);
        Sentence.due("the first INPUT there, " + call, x.worstAt(0), rows.get(worst).exact(0));
        Sentence.due("the second INPUT there, " + call, x.worstAt(1), rows.get(worst).exact(1));
        Sentence.due("above " + m + ", " + call, x.above(v, m), Arrays.stream(misses).filter(miss -> miss > m).count());
        Sentence.due("above the worst, " + call, x.above(v, misses[worst]), 0);
    }

    private static void cheapest() {
        Sentence.is("the cheapest widths under a told miss;");
        Random random = new Random(3);
        for (int program = 0; program < 120; program++) {
            Recipe recipe = randomRecipe(random, 1 + random.nextInt(3));
            int last = recipe.values.length - 1;
            long m = random.nextInt(1 << random.nextInt(24));
            String call = "program " + program + ", least(" + last + ", " + m + ")";
            BitTuner chosen = recipe.make();
            Sentence.due(call, chosen.least(last, m), chosen.price());
            Sentence.holds(call + " keeps to m", chosen.about(last, 9) <= m);
            noneIsCheaper(call, recipe, chosen, m);
        }
    }

    /** All choices, in the order that settles like ones: those ahead of the chosen one have to be dearer. */
    private static void noneIsCheaper(String call, Recipe recipe, BitTuner chosen, long m) {
        int last = recipe.values.length - 1;
        int worked = chosen.count(3);
        int price = chosen.price();
        int place = 0;
        for (int v = 3; v <= last; v++) {
            long f = chosen.about(v, 4);
            Sentence.due(call + ", BITS of " + v + " by 4", f % 4, 0);
            place = 5 * place + (int) f / 4;
        }
        for (int choice = 0; choice < (int) Math.pow(5, worked); choice++) {
            BitTuner x = recipe.make();
            for (int v = last, rest = choice; v >= 3; v--, rest /= 5) {
                x.bits(v, rest % 5 * 4);
            }
            if (x.about(last, 9) <= m) {
                boolean isNoBetter = choice < place ? x.price() > price : x.price() >= price;
                Sentence.holds(call + ", not choice " + choice, isNoBetter);
            }
        }
    }

    private static void comeInAndGoOut() {
        Sentence.is("doubles and floats that come in and go out.");
        BitTuner x = new BitTuner();
        for (int units = -Made.G; units <= Made.G; units += STEP) {
            if (units % (STEP * 64) == 0) {
                x = new BitTuner();
                x.input(-Made.G, Made.G);
            }
            double number = units / 65536.0;
            Sentence.due("enter " + number, x.enter(0, number), 1);
            Sentence.dueNumber("as a double", x.leave(0), number);
            Sentence.dueNumber("as a float", x.narrow(0), (float) number);
            Sentence.due("in UNITS", x.tuned(0), units);
        }
    }

    /** Calls of two objects in turn are answered as if each were alone. */
    private static void objectsApart() {
        Sentence.is("An object is used for at most 512 calls after it has been made;");
        Random random = new Random(4);
        for (int pair = 0; pair < 50; pair++) {
            Recipe one = randomRecipe(random, 5);
            Recipe other = randomRecipe(random, 5);
            BitTuner x = one.make();
            BitTuner y = other.make();
            for (int v = 3; v < 8; v++) {
                x.worst(v);
                y.worst(7);
                y.trim(7, 1000);
                x.least(v, 5000);
            }
            BitTuner alone = one.make();
            for (int v = 3; v < 8; v++) {
                alone.worst(v);
                alone.least(v, 5000);
            }
            Sentence.due("digest(), pair " + pair, x.digest(), alone.digest());
            Sentence.due("worstAt(0), pair " + pair, x.worstAt(0), alone.worstAt(0));
            Sentence.due("worstAt(1), pair " + pair, x.worstAt(1), alone.worstAt(1));
        }
    }
}
