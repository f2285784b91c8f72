import java.util.Random;

/** Random runs of calls, answered by the class and by the Model; the seeds are fixed. */
public final class ModelTest {
    /** What an object answers after its 512th call is free; the rest is for one round more and for soundBounds(). */
    private static final int CALLS = 512 - 12 - 32;
    private static final double[] NUMBERS = {0.0, -0.0, 0.0625, -0.0625, 1.0, -1.0, 2.5, 64.0, -64.0, 64.0625,
        0.03125, 4096.0, Double.NaN, Double.POSITIVE_INFINITY, Double.NEGATIVE_INFINITY, Double.MIN_VALUE,
        Double.MAX_VALUE, 1e18};
    private static final int[] EDGES = {-1, 0, 1, 2, 15, 16, 17, 4095, 4096, 4194304, -4194304, 4198400,
        Integer.MIN_VALUE, Integer.MAX_VALUE};

    private final Random random;
    private final int run;
    private final BitTuner x = new BitTuner();
    private final Model y = new Model();
    /** How wide INPUTS are at most, in steps: few make ROWS few, many make ends great. */
    private final int widest;
    private int asked = 0;

    private ModelTest(int run) {
        this.run = run;
        random = new Random(run);
        widest = new int[] {1, 3, 12, 200, 2048}[run % 5];
    }

    public static void main(String[] args) {
        int runs = args.length > 0 ? Integer.parseInt(args[0]) : 600;
        for (int run = 0; run < runs && Check.wrongSoFar() < 20; run++) {
            new ModelTest(run).go();
        }
        Check.finish();
    }

    private void go() {
        int before = Check.wrongSoFar();
        for (int round = 0; asked < CALLS && Check.wrongSoFar() == before; round++) {
            int which = random.nextInt(100);
            if (which < 35) {
                build();
            } else if (which < 60) {
                tell();
            } else if (which < 85) {
                ask();
            } else {
                search();
            }
            if (round % 10 == 0) {
                due("digest()", x.digest(), y.digest());
            }
        }
        soundBounds();
    }

    private void due(String call, long got, long want) {
        asked++;
        Check.due("run " + run + ": " + call, got, want);
    }

    private int edge() {
        return EDGES[random.nextInt(EDGES.length)];
    }

    /** A VALUE's number, now and then one that is none. */
    private int value() {
        return random.nextInt(20) == 0 ? edge() : random.nextInt(y.count(0) + 1);
    }

    private int units() {
        return random.nextInt(20) == 0 ? edge() : (random.nextInt(2 * widest + 1) - widest) * 4096;
    }

    private long told() {
        int which = random.nextInt(12);
        if (which == 0) {
            return random.nextLong();
        }
        return which == 1 ? random.nextInt(3) - 1 : random.nextLong() >>> 34 + random.nextInt(28);
    }

    private void build() {
        int a = value();
        int b = value();
        int which = random.nextInt(12);
        if (which == 0 || y.count(0) == 0) {
            int low = units();
            int high = random.nextBoolean() ? low + random.nextInt(4) * 4096 : units();
            due("input(" + low + ", " + high + ")", x.input(low, high), y.input(low, high));
        } else if (which == 1) {
            int c = units();
            due("fixed(" + c + ")", x.fixed(c), y.fixed(c));
        } else if (which == 2 && random.nextInt(3) == 0) {
            due("cut(" + a + ")", x.cut(a), y.cut(a));
        } else {
            int kind = random.nextInt(20) == 0 ? edge() : 2 + random.nextInt(6);
            b = kind > 5 && random.nextInt(9) > 0 ? 0 : b;
            due("work(" + kind + ", " + a + ", " + b + ")", x.work(kind, a, b), y.work(kind, a, b));
        }
    }

    private void tell() {
        int v = value();
        int n = random.nextInt(9) == 0 ? edge() : random.nextInt(17);
        switch (random.nextInt(6)) {
            case 0: case 1:
                due("bits(" + v + ", " + n + ")", x.bits(v, n), y.bits(v, n));
                break;
            case 2:
                due("rounding(" + v + ", " + n % 3 + ")", x.rounding(v, n % 3), y.rounding(v, n % 3));
                break;
            case 3:
                due("weight(" + v + ", " + n * 7 + ")", x.weight(v, n * 7), y.weight(v, n * 7));
                break;
            case 4:
                int units = units();
                due("set(" + v + ", " + units + ")", x.set(v, units), y.set(v, units));
                break;
            default:
                double number = random.nextBoolean() ? units() / 65536.0 : NUMBERS[random.nextInt(NUMBERS.length)];
                due("enter(" + v + ", " + number + ")", x.enter(v, number), y.enter(v, number));
                break;
        }
    }

    private void ask() {
        int v = value();
        int what = random.nextInt(9) == 0 ? edge() : random.nextInt(10);
        due("about(" + v + ", " + what + ")", x.about(v, what), y.about(v, what));
        due("exact(" + v + ")", x.exact(v), y.exact(v));
        due("tuned(" + v + ")", x.tuned(v), y.tuned(v));
        due("miss(" + v + ")", x.miss(v), y.miss(v));
        asked += 2;
        Check.dueNumber("run " + run + ": leave(" + v + ")", x.leave(v), y.leave(v));
        Check.dueNumber("run " + run + ": narrow(" + v + ")", x.narrow(v), y.narrow(v));
        due("price()", x.price(), y.price());
        due("rows()", x.rows(), y.rows());
        due("count(" + what + ")", x.count(what), y.count(what));
        due("worstAt(" + v + ")", x.worstAt(v), y.worstAt(v));
    }

    private void search() {
        int v = value();
        int w = value();
        long m = told();
        switch (random.nextInt(7)) {
            case 0:
                due("worst(" + v + ")", x.worst(v), y.worst(v));
                due("worstAt(" + w + ")", x.worstAt(w), y.worstAt(w));
                break;
            case 1:
                due("above(" + v + ", " + m + ")", x.above(v, m), y.above(v, m));
                break;
            case 2:
                due("least(" + v + ", " + m + ")", x.least(v, m), y.least(v, m));
                break;
            case 3:
                due("trim(" + v + ", " + m + ")", x.trim(v, m), y.trim(v, m));
                break;
            case 4:
                due("floor(" + v + ")", x.floor(v), y.floor(v));
                break;
            case 5:
                due("gain(" + v + ", " + w + ")", x.gain(v, w), y.gain(v, w));
                break;
            default:
                due("blame(" + v + ")", x.blame(v), y.blame(v));
                break;
        }
    }

    /** What the document says of THE BOUND as a whole: it holds for every run. */
    private void soundBounds() {
        for (int v = 0; v < y.count(0); v++) {
            long bound = x.about(v, 9);
            Check.holds("run " + run + ": the bound of " + v, bound == 1073741824 || x.miss(v) <= bound);
        }
    }
}
