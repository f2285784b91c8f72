/**
 * A tuner of widths: small programs of sums and products whose values are held in so many broken bits.
 * The numbered promises and the words in capitals are those of the document (shared/DOC.md).
 */
public final class BitTuner {
    public static final int NONE = -1, BAD = -2, FULL = -3, BEYOND = -4, NOT = -5;

    private static final int INPUT = 0, FIXED = 1, SUM = 2, LESS = 3, TIMES = 4, GREATER = 5, AMOUNT = 6, COPY = 7;
    private static final int DOWN = 0, NEAREST = 1, TOWARD_ZERO = 2;

    private static final int MOST_VALUES = 16;
    private static final int MOST_DEGREE = 4;
    private static final int MOST_BITS = 16;
    private static final int MOST_WEIGHT = 100;
    private static final int STEP = 4096;
    private static final int MOST_GIVEN = 4194304;
    private static final long MOST_SPAN = 67108864L;
    /** One is 2 to this power of UNITS. */
    private static final int ONE_SHIFT = 16;

    private final Program program;
    private final Runs runs;
    private final Widths widths;

    public BitTuner() {
        program = new Program();
        runs = new Runs(program);
        widths = new Widths(program);
    }

    // ---- programs

    public int input(int low, int high) {
        if (!isGivable(low) || !isGivable(high) || low > high) {
            return BAD;
        }
        return program.addGiven(INPUT, low, high);
    }

    public int fixed(int c) {
        if (!isGivable(c)) {
            return BAD;
        }
        return program.addGiven(FIXED, c, 0);
    }

    public int work(int kind, int a, int b) {
        if (kind < SUM || kind > COPY || !program.has(a)) {
            return BAD;
        }
        boolean bIsFit = hasTwoParts(kind) ? program.has(b) : b == 0;
        return bIsFit ? program.addWorked(kind, a, b) : BAD;
    }

    public int cut(int many) {
        if (many < 0 || many > program.many) {
            return BAD;
        }
        int gone = program.many - many;
        program.many = many;
        return gone;
    }

    public int bits(int v, int f) {
        if (!program.isWorked(v) || f < 0 || f > MOST_BITS) {
            return BAD;
        }
        Value value = program.values[v];
        int before = value.bits;
        value.bits = f;
        return before;
    }

    public int rounding(int v, int kind) {
        if (!program.isWorked(v) || kind < DOWN || kind > TOWARD_ZERO) {
            return BAD;
        }
        Value value = program.values[v];
        int before = value.rounding;
        value.rounding = kind;
        return before;
    }

    public int weight(int v, int w) {
        if (!program.isWorked(v) || w < 0 || w > MOST_WEIGHT) {
            return BAD;
        }
        Value value = program.values[v];
        int before = value.weight;
        value.weight = w;
        return before;
    }

    public long about(int v, int what) {
        if (!program.has(v)) {
            return refusal(BAD);
        }
        Value value = program.values[v];
        switch (what) {
            case 0: return value.kind;
            case 1: return value.a;
            case 2: return value.b;
            case 3: return value.degree;
            case 4: return value.bits;
            case 5: return value.rounding;
            case 6: return value.weight;
            case 7: return value.low;
            case 8: return value.high;
            case 9: return widths.boundAsTold(v);
            default: return refusal(BAD);
        }
    }

    public int price() {
        return program.priceInAll();
    }

    // ---- runs

    public int set(int v, int units) {
        if (!program.isInput(v) || !isStep(units)) {
            return BAD;
        }
        Value value = program.values[v];
        if (units < value.low || units > value.high) {
            return BAD;
        }
        value.units = units;
        return 1;
    }

    public int enter(int v, double number) {
        // No INPUT reaches beyond 64; the test, which NaN fails too, keeps the casts below exact.
        if (!(number >= -64.0 && number <= 64.0)) {
            return BAD;
        }
        double steps = number * 16.0;
        int wholeSteps = (int) steps;
        if (wholeSteps != steps) {
            return BAD;
        }
        return set(v, wholeSteps * STEP);
    }

    public long exact(int v) {
        if (!program.has(v)) {
            return refusal(BAD);
        }
        runs.workOutAsSet(v);
        return runs.exacts[v];
    }

    public long tuned(int v) {
        if (!program.has(v)) {
            return refusal(BAD);
        }
        runs.workOutAsSet(v);
        return runs.tuneds[v];
    }

    public long miss(int v) {
        if (!program.has(v)) {
            return refusal(BAD);
        }
        runs.workOutAsSet(v);
        return runs.missOf(v);
    }

    public double leave(int v) {
        if (!program.has(v)) {
            return 0.0;
        }
        runs.workOutAsSet(v);
        return runs.tuneds[v] / 65536.0;
    }

    public float narrow(int v) {
        // A double holds every TUNED number wholly, so the cast is the only rounding.
        return (float) leave(v);
    }

    public int rows() {
        return runs.rowsInAll();
    }

    public long worst(int v) {
        if (!program.has(v)) {
            return refusal(BAD);
        }
        if (!runs.areFew()) {
            return refusal(NOT);
        }
        return runs.greatestMiss(v);
    }

    public int worstAt(int i) {
        return i >= 0 && i < MOST_VALUES ? runs.worstRow[i] : BAD;
    }

    public int above(int v, long m) {
        if (!program.has(v)) {
            return BAD;
        }
        return runs.areFew() ? runs.rowsAbove(v, m) : NOT;
    }

    // ---- widths

    public int least(int v, long m) {
        if (!program.has(v) || m < 0) {
            return BAD;
        }
        return widths.chooseCheapest(v, m);
    }

    public int trim(int v, long m) {
        if (!program.has(v) || m < 0) {
            return BAD;
        }
        return widths.lessenInTurn(v, m);
    }

    public long floor(int v) {
        return program.has(v) ? widths.boundAtWidest(v) : refusal(BAD);
    }

    public long gain(int v, int w) {
        if (!program.has(v) || !program.has(w)) {
            return refusal(BAD);
        }
        return widths.gainOf(v, w);
    }

    public int blame(int v) {
        return program.has(v) ? widths.mostToBlame(v) : BAD;
    }

    public int count(int what) {
        switch (what) {
            case 0: return program.many;
            case 1: return program.inputs();
            case 2: return program.priceInAll();
            case 3: return program.workedOnes();
            default: return BAD;
        }
    }

    public long digest() {
        long h = 17;
        for (int what = 0; what <= 3; what++) {
            h = 31 * h + count(what);
        }
        for (int v = 0; v < program.many; v++) {
            for (int what = 0; what <= 9; what++) {
                h = 31 * h + about(v, what);
            }
            h = 31 * h + exact(v);
            h = 31 * h + tuned(v);
        }
        return h;
    }

    // ---- what all parts use

    /** A refusal where the answer is a long: the least long and as much as the refusal is below 0. */
    private static long refusal(int code) {
        return Long.MIN_VALUE - code;
    }

    private static boolean isStep(int units) {
        return units % STEP == 0;
    }

    private static boolean isGivable(int units) {
        return isStep(units) && units >= -MOST_GIVEN && units <= MOST_GIVEN;
    }

    private static boolean hasTwoParts(int kind) {
        return kind >= SUM && kind <= GREATER;
    }

    /** A KIND's work on whole UNITS; of TIMES the whole product, 65536 times too great. */
    private static long result(int kind, long x, long y) {
        switch (kind) {
            case SUM: return x + y;
            case LESS: return x - y;
            case TIMES: return x * y;
            case GREATER: return Math.max(x, y);
            case AMOUNT: return Math.abs(x);
            default: return x;
        }
    }

    /** One VALUE of a program. */
    private static final class Value {
        int kind;
        /** The PARTS; of INPUT LOW and HIGH, of FIXED itself and 0. */
        int a, b;
        int degree;
        int bits, rounding, weight;
        /** The ends of the SPAN, and the greater one of their amounts. */
        long low, high, reach;
        /** What an INPUT is SET to; of FIXED itself. */
        int units;

        boolean isGiven() {
            return kind == INPUT || kind == FIXED;
        }

        void begin(int itsKind, int itsA, int itsB) {
            kind = itsKind;
            a = itsA;
            b = itsB;
            degree = 1;
            bits = MOST_BITS;
            rounding = DOWN;
            weight = 1;
            units = 0;
        }

        void spanGiven() {
            low = a;
            high = kind == INPUT ? b : a;
            reach = Math.max(Math.abs(low), Math.abs(high));
            units = a;
        }

        /** DEGREE and SPAN from the PARTS; where there is no second part, y is x. */
        void spanWorked(Value x, Value y) {
            degree = kind == TIMES ? x.degree + y.degree : Math.max(x.degree, y.degree);
            switch (kind) {
                case LESS:
                    low = x.low - y.high;
                    high = x.high - y.low;
                    break;
                case TIMES:
                    spanProduct(x, y);
                    break;
                case AMOUNT:
                    spanAmount(x);
                    break;
                default:
                    low = result(kind, x.low, y.low);
                    high = result(kind, x.high, y.high);
                    break;
            }
            reach = Math.max(Math.abs(low), Math.abs(high));
        }

        private void spanProduct(Value x, Value y) {
            long ll = x.low * y.low;
            long lh = x.low * y.high;
            long hl = x.high * y.low;
            long hh = x.high * y.high;
            low = Math.min(Math.min(ll, lh), Math.min(hl, hh)) >> ONE_SHIFT;
            high = Math.max(Math.max(ll, lh), Math.max(hl, hh)) >> ONE_SHIFT;
        }

        private void spanAmount(Value x) {
            boolean holdsZero = x.low <= 0 && x.high >= 0;
            low = holdsZero ? 0 : Math.min(Math.abs(x.low), Math.abs(x.high));
            high = x.reach;
        }

        boolean isWithinLimits() {
            return degree <= MOST_DEGREE && reach <= MOST_SPAN;
        }
    }

    /** The VALUES in their order; the rows are made once and used again after a cut. */
    private static final class Program {
        final Value[] values;
        int many;

        Program() {
            values = new Value[MOST_VALUES];
            for (int i = 0; i < MOST_VALUES; i++) {
                values[i] = new Value();
            }
            many = 0;
        }

        boolean has(int v) {
            return v >= 0 && v < many;
        }

        boolean isInput(int v) {
            return has(v) && values[v].kind == INPUT;
        }

        boolean isWorked(int v) {
            return has(v) && !values[v].isGiven();
        }

        int addGiven(int kind, int a, int b) {
            if (many >= MOST_VALUES) {
                return FULL;
            }
            Value next = values[many];
            next.begin(kind, a, b);
            next.spanGiven();
            return many++;
        }

        /** Fills the first free place, which counts for nothing until many has grown over it. */
        int addWorked(int kind, int a, int b) {
            if (many >= MOST_VALUES) {
                return FULL;
            }
            Value next = values[many];
            next.begin(kind, a, b);
            next.spanWorked(values[a], values[hasTwoParts(kind) ? b : a]);
            return next.isWithinLimits() ? many++ : BEYOND;
        }

        int inputs() {
            int found = 0;
            for (int i = 0; i < many; i++) {
                if (values[i].kind == INPUT) {
                    found++;
                }
            }
            return found;
        }

        int workedOnes() {
            int found = 0;
            for (int i = 0; i < many; i++) {
                if (!values[i].isGiven()) {
                    found++;
                }
            }
            return found;
        }

        int priceInAll() {
            int sum = 0;
            for (int i = 0; i < many; i++) {
                if (!values[i].isGiven()) {
                    sum += values[i].weight * values[i].bits;
                }
            }
            return sum;
        }
    }

    /** Works VALUES out, for the INPUTS as SET or for all ROWS. */
    private static final class Runs {
        private static final int MOST_TOLD_ROWS = 1000000;
        private static final int FEW_ROWS = 4000;
        private static final long MOST_TUNED = 2147483648L;

        private final Program program;
        /** What the given VALUES are in the run that is worked out. */
        private final int[] row;
        final long[] exacts;
        final long[] tuneds;
        /** What each INPUT was in the worst ROW; BAD, which no INPUT can be, in all other places. */
        final int[] worstRow;

        Runs(Program itsProgram) {
            program = itsProgram;
            row = new int[MOST_VALUES];
            exacts = new long[MOST_VALUES];
            tuneds = new long[MOST_VALUES];
            worstRow = new int[MOST_VALUES];
            for (int i = 0; i < MOST_VALUES; i++) {
                worstRow[i] = BAD;
            }
        }

        void workOutAsSet(int v) {
            for (int i = 0; i <= v; i++) {
                row[i] = program.values[i].units;
            }
            workOut(v);
        }

        long missOf(int v) {
            return Math.abs(tuneds[v] - exacts[v]);
        }

        /** All VALUES up to v, which needs none behind it. */
        private void workOut(int v) {
            for (int i = 0; i <= v; i++) {
                Value value = program.values[i];
                if (value.isGiven()) {
                    exacts[i] = row[i];
                    tuneds[i] = row[i];
                } else {
                    int b = hasTwoParts(value.kind) ? value.b : value.a;
                    exacts[i] = exactly(value.kind, exacts[value.a], exacts[b]);
                    tuneds[i] = tunedTo(value, tuneds[value.a], tuneds[b]);
                }
            }
        }

        /** The DEGREE's limit makes every exact product a whole number of UNITS. */
        private static long exactly(int kind, long x, long y) {
            long whole = result(kind, x, y);
            return kind == TIMES ? whole >> ONE_SHIFT : whole;
        }

        private static long tunedTo(Value value, long x, long y) {
            // A product stays whole until it has been ROUNDED, or it would be rounded twice.
            int finer = value.kind == TIMES ? ONE_SHIFT : 0;
            int shift = finer + MOST_BITS - value.bits;
            long near = rounded(result(value.kind, x, y), shift, value.rounding) >> finer;
            return Math.max(-MOST_TUNED, Math.min(MOST_TUNED, near));
        }

        /** To a multiple of 2 to the power shift. */
        private static long rounded(long x, int shift, int rounding) {
            if (rounding == TOWARD_ZERO && x < 0) {
                return -((-x >> shift) << shift);
            }
            long half = rounding == NEAREST && shift > 0 ? 1L << (shift - 1) : 0;
            return ((x + half) >> shift) << shift;
        }

        int rowsInAll() {
            long product = 1;
            for (int i = 0; i < program.many && product < MOST_TOLD_ROWS; i++) {
                Value value = program.values[i];
                if (value.kind == INPUT) {
                    product *= (value.high - value.low) / STEP + 1;
                }
            }
            return (int) Math.min(product, MOST_TOLD_ROWS);
        }

        boolean areFew() {
            return rowsInAll() <= FEW_ROWS;
        }

        long greatestMiss(int v) {
            int rowsLeft = rowsInAll();
            long greatest = -1;
            toFirstRow();
            for (; rowsLeft > 0; rowsLeft--) {
                workOut(v);
                long miss = missOf(v);
                if (miss > greatest) {
                    greatest = miss;
                    keepRow();
                }
                toNextRow();
            }
            return greatest;
        }

        int rowsAbove(int v, long m) {
            int rowsLeft = rowsInAll();
            int found = 0;
            toFirstRow();
            for (; rowsLeft > 0; rowsLeft--) {
                workOut(v);
                if (missOf(v) > m) {
                    found++;
                }
                toNextRow();
            }
            return found;
        }

        private void toFirstRow() {
            for (int i = 0; i < program.many; i++) {
                row[i] = program.values[i].a;
            }
        }

        private void toNextRow() {
            for (int i = program.many - 1; i >= 0; i--) {
                Value value = program.values[i];
                if (value.kind == INPUT) {
                    if (row[i] < value.high) {
                        row[i] += STEP;
                        return;
                    }
                    row[i] = value.a;
                }
            }
        }

        private void keepRow() {
            for (int i = 0; i < MOST_VALUES; i++) {
                worstRow[i] = program.isInput(i) ? row[i] : BAD;
            }
        }
    }

    /** THE BOUND for told and for tried BITS, and the searches for BITS. */
    private static final class Widths {
        private static final long MOST_BOUND = 1073741824L;
        private static final int MOST_CHOSEN = 6;
        private static final int CHOICE_STEP = 4;

        private final Program program;
        /** The BITS that bounds are worked out with; a search tries them here first. */
        private final int[] trial;
        private final long[] bounds;
        private final int[] cheapest;
        private int cheapestPrice;

        Widths(Program itsProgram) {
            program = itsProgram;
            trial = new int[MOST_VALUES];
            bounds = new long[MOST_VALUES];
            cheapest = new int[MOST_VALUES];
            cheapestPrice = 0;
        }

        long boundAsTold(int v) {
            tryAsTold();
            return boundTried(v);
        }

        long boundAtWidest(int v) {
            tryWidest();
            return boundTried(v);
        }

        long gainOf(int v, int w) {
            long before = boundAsTold(v);
            trial[w] = MOST_BITS;
            return before - boundTried(v);
        }

        int mostToBlame(int v) {
            int found = NONE;
            long greatest = 0;
            for (int w = 0; w < program.many; w++) {
                long gained = program.isWorked(w) ? gainOf(v, w) : 0;
                if (gained > greatest) {
                    greatest = gained;
                    found = w;
                }
            }
            return found;
        }

        int lessenInTurn(int v, long m) {
            if (boundAtWidest(v) > m) {
                return NOT;
            }
            for (int i = 0; i < program.many; i++) {
                if (program.isWorked(i)) {
                    lessen(i, v, m);
                }
            }
            take(trial);
            return program.priceInAll();
        }

        private void lessen(int i, int v, long m) {
            for (int f = MOST_BITS - 1; f >= 0; f--) {
                trial[i] = f;
                if (boundTried(v) > m) {
                    trial[i] = f + 1;
                    return;
                }
            }
        }

        int chooseCheapest(int v, long m) {
            if (program.workedOnes() > MOST_CHOSEN) {
                return NOT;
            }
            cheapestPrice = Integer.MAX_VALUE;
            choose(0, 0, v, m);
            if (cheapestPrice == Integer.MAX_VALUE) {
                return NOT;
            }
            take(cheapest);
            return program.priceInAll();
        }

        /**
         * Chooses BITS from VALUE i on, the VALUES ahead of it having theirs at a price.
         * Fewer BITS come first, so of like prices the first one found is the one that is due.
         */
        private void choose(int i, int price, int v, long m) {
            if (price >= cheapestPrice) {
                return;
            }
            if (i >= program.many) {
                cheapestPrice = price;
                System.arraycopy(trial, 0, cheapest, 0, MOST_VALUES);
                return;
            }
            Value value = program.values[i];
            // A given VALUE has its one width, the greatest, and no price.
            int weight = value.isGiven() ? 0 : value.weight;
            int first = value.isGiven() ? MOST_BITS : 0;
            for (int f = first; f <= MOST_BITS; f += CHOICE_STEP) {
                trial[i] = f;
                bounds[i] = boundFromParts(i);
                if (i != v || bounds[i] <= m) {
                    choose(i + 1, price + weight * f, v, m);
                }
            }
        }

        private void tryAsTold() {
            for (int i = 0; i < program.many; i++) {
                trial[i] = program.values[i].bits;
            }
        }

        private void tryWidest() {
            for (int i = 0; i < MOST_VALUES; i++) {
                trial[i] = MOST_BITS;
            }
        }

        private void take(int[] chosen) {
            for (int i = 0; i < program.many; i++) {
                program.values[i].bits = chosen[i];
            }
        }

        private long boundTried(int v) {
            for (int i = 0; i <= v; i++) {
                bounds[i] = boundFromParts(i);
            }
            return bounds[v];
        }

        /** THE BOUND of VALUE i, those of its PARTS being worked out already. */
        private long boundFromParts(int i) {
            Value value = program.values[i];
            if (value.isGiven()) {
                return 0;
            }
            long a = bounds[value.a];
            long b = hasTwoParts(value.kind) ? bounds[value.b] : 0;
            long handedOn;
            switch (value.kind) {
                case TIMES:
                    handedOn = boundOfProduct(value, a, b);
                    break;
                case GREATER:
                    handedOn = Math.max(a, b);
                    break;
                default:
                    handedOn = a + b;
                    break;
            }
            return Math.min(MOST_BOUND, handedOn + roundingMiss(value.rounding, trial[i]));
        }

        private long boundOfProduct(Value value, long a, long b) {
            if (a == MOST_BOUND || b == MOST_BOUND) {
                return MOST_BOUND;
            }
            long p = program.values[value.a].reach;
            long q = program.values[value.b].reach;
            long together = p * b + q * a + a * b;
            return (together + 65535) >> ONE_SHIFT;
        }

        private static long roundingMiss(int rounding, int f) {
            long unit = 65536L >> f;
            return rounding == NEAREST ? unit / 2 : unit - 1;
        }
    }
}
