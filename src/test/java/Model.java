import java.math.BigDecimal;
import java.math.BigInteger;
import java.math.RoundingMode;
import java.util.ArrayList;
import java.util.HashMap;
import java.util.List;
import java.util.Map;

/**
 * A second reading of the document, slow and by other means than the class: broken numbers as decimals,
 * VALUES worked out by recursion, all choices gone through without leaving any out.
 */
final class Model {
    private static final BigDecimal ONE = BigDecimal.valueOf(65536);
    private static final BigInteger GREATEST = BigInteger.valueOf(1073741824);

    private static final class V {
        int kind, a, b, bits = 16, rounding = 0, weight = 1, at;
    }

    private final List<V> vs = new ArrayList<>();
    private Map<Integer, Integer> worstInputs = new HashMap<>();

    // ---- programs

    int input(int low, int high) {
        if (low % 4096 != 0 || high % 4096 != 0 || low > high || low < -4194304 || high > 4194304) {
            return -2;
        }
        return add(0, low, high);
    }

    int fixed(int c) {
        return c % 4096 != 0 || c < -4194304 || c > 4194304 ? -2 : add(1, c, 0);
    }

    private int add(int kind, int a, int b) {
        if (vs.size() == 16) {
            return -3;
        }
        V v = new V();
        v.kind = kind;
        v.a = a;
        v.b = b;
        v.at = kind < 2 ? a : 0;
        vs.add(v);
        return vs.size() - 1;
    }

    int work(int kind, int a, int b) {
        if (kind < 2 || kind > 7 || no(a) || (kind < 6 ? no(b) : b != 0)) {
            return -2;
        }
        int v = add(kind, a, b);
        if (v < 0) {
            return v;
        }
        BigInteger limit = BigInteger.valueOf(67108864);
        if (degree(v) > 4 || end(v, false).compareTo(limit.negate()) < 0 || end(v, true).compareTo(limit) > 0) {
            vs.remove(v);
            return -4;
        }
        return v;
    }

    int cut(int many) {
        if (many < 0 || many > vs.size()) {
            return -2;
        }
        int gone = 0;
        while (vs.size() > many) {
            vs.remove(vs.size() - 1);
            gone++;
        }
        return gone;
    }

    int bits(int v, int f) {
        if (noWorked(v) || f < 0 || f > 16) {
            return -2;
        }
        int was = vs.get(v).bits;
        vs.get(v).bits = f;
        return was;
    }

    int rounding(int v, int kind) {
        if (noWorked(v) || kind < 0 || kind > 2) {
            return -2;
        }
        int was = vs.get(v).rounding;
        vs.get(v).rounding = kind;
        return was;
    }

    int weight(int v, int w) {
        if (noWorked(v) || w < 0 || w > 100) {
            return -2;
        }
        int was = vs.get(v).weight;
        vs.get(v).weight = w;
        return was;
    }

    long about(int v, int what) {
        if (no(v) || what < 0 || what > 9) {
            return Check.BAD_LONG;
        }
        V x = vs.get(v);
        long[] all = {x.kind, x.a, x.b, degree(v), x.bits, x.rounding, x.weight,
            end(v, false).longValueExact(), end(v, true).longValueExact(), bound(v).longValueExact()};
        return all[what];
    }

    int price() {
        return vs.stream().filter(v -> v.kind > 1).mapToInt(v -> v.weight * v.bits).sum();
    }

    private boolean no(int v) {
        return v < 0 || v >= vs.size();
    }

    private boolean noWorked(int v) {
        return no(v) || vs.get(v).kind < 2;
    }

    private int degree(int v) {
        V x = vs.get(v);
        switch (x.kind) {
            case 0: case 1: return 1;
            case 4: return degree(x.a) + degree(x.b);
            case 6: case 7: return degree(x.a);
            default: return Math.max(degree(x.a), degree(x.b));
        }
    }

    /** LEAST or MOST; a product of too high a degree may be broken, and is refused anyway. */
    private BigInteger end(int v, boolean most) {
        V x = vs.get(v);
        switch (x.kind) {
            case 0: return BigInteger.valueOf(most ? x.b : x.a);
            case 1: return BigInteger.valueOf(x.a);
            case 2: return end(x.a, most).add(end(x.b, most));
            case 3: return end(x.a, most).subtract(end(x.b, !most));
            case 4: return productEnd(x, most);
            case 5: return end(x.a, most).max(end(x.b, most));
            case 6: return amountEnd(x, most);
            default: return end(x.a, most);
        }
    }

    private BigInteger productEnd(V x, boolean most) {
        BigInteger found = null;
        for (int ends = 0; ends < 4; ends++) {
            BigInteger product = end(x.a, ends % 2 == 0).multiply(end(x.b, ends < 2));
            found = found == null ? product : most ? found.max(product) : found.min(product);
        }
        return found.divide(BigInteger.valueOf(65536));
    }

    private BigInteger amountEnd(V x, boolean most) {
        BigInteger low = end(x.a, false);
        BigInteger high = end(x.a, true);
        if (most) {
            return low.abs().max(high.abs());
        }
        return low.signum() <= 0 && high.signum() >= 0 ? BigInteger.ZERO : low.abs().min(high.abs());
    }

    private BigInteger bound(int v) {
        V x = vs.get(v);
        if (x.kind < 2) {
            return BigInteger.ZERO;
        }
        BigInteger a = bound(x.a);
        BigInteger b = x.kind < 6 ? bound(x.b) : BigInteger.ZERO;
        long u = 65536 / (1 << x.bits);
        BigInteger r = BigInteger.valueOf(x.rounding == 1 ? u / 2 : u - 1);
        BigInteger sum;
        if (x.kind == 5) {
            sum = a.max(b).add(r);
        } else if (x.kind != 4) {
            sum = a.add(b).add(r);
        } else if (a.equals(GREATEST) || b.equals(GREATEST)) {
            sum = GREATEST;
        } else {
            BigInteger p = end(x.a, false).abs().max(end(x.a, true).abs());
            BigInteger q = end(x.b, false).abs().max(end(x.b, true).abs());
            BigInteger all = p.multiply(b).add(q.multiply(a)).add(a.multiply(b));
            sum = new BigDecimal(all).divide(ONE, 0, RoundingMode.CEILING).toBigInteger().add(r);
        }
        return sum.min(GREATEST);
    }

    // ---- runs

    int set(int v, int units) {
        if (no(v) || vs.get(v).kind != 0 || units % 4096 != 0 || units < vs.get(v).a || units > vs.get(v).b) {
            return -2;
        }
        vs.get(v).at = units;
        return 1;
    }

    int enter(int v, double number) {
        if (Double.isNaN(number) || Double.isInfinite(number)) {
            return -2;
        }
        BigDecimal units = new BigDecimal(number).multiply(ONE);
        if (units.abs().compareTo(BigDecimal.valueOf(4194304)) > 0 || units.stripTrailingZeros().scale() > 0) {
            return -2;
        }
        return set(v, units.intValueExact());
    }

    private BigDecimal workOn(V x, BigDecimal a, BigDecimal b) {
        switch (x.kind) {
            case 2: return a.add(b);
            case 3: return a.subtract(b);
            case 4: return a.multiply(b);
            case 5: return a.max(b);
            case 6: return a.abs();
            default: return a;
        }
    }

    /** As numbers, not as UNITS. */
    private BigDecimal exactNumber(int v) {
        V x = vs.get(v);
        if (x.kind < 2) {
            return BigDecimal.valueOf(x.at).divide(ONE);
        }
        return workOn(x, exactNumber(x.a), exactNumber(x.b * (x.kind < 6 ? 1 : 0)));
    }

    private BigDecimal tunedNumber(int v) {
        V x = vs.get(v);
        if (x.kind < 2) {
            return exactNumber(v);
        }
        BigDecimal parts = BigDecimal.valueOf(1 << x.bits);
        BigDecimal many = workOn(x, tunedNumber(x.a), tunedNumber(x.kind < 6 ? x.b : x.a)).multiply(parts);
        BigDecimal whole;
        if (x.rounding == 1) {
            whole = many.add(new BigDecimal("0.5")).setScale(0, RoundingMode.FLOOR);
        } else {
            whole = many.setScale(0, x.rounding == 0 ? RoundingMode.FLOOR : RoundingMode.DOWN);
        }
        BigDecimal end = BigDecimal.valueOf(32768);
        return whole.divide(parts).max(end.negate()).min(end);
    }

    long exact(int v) {
        return no(v) ? Check.BAD_LONG : exactNumber(v).multiply(ONE).longValueExact();
    }

    long tuned(int v) {
        return no(v) ? Check.BAD_LONG : tunedNumber(v).multiply(ONE).longValueExact();
    }

    long miss(int v) {
        return no(v) ? Check.BAD_LONG : Math.abs(tuned(v) - exact(v));
    }

    double leave(int v) {
        return no(v) ? 0 : tunedNumber(v).doubleValue();
    }

    float narrow(int v) {
        return no(v) ? 0 : tunedNumber(v).floatValue();
    }

    int rows() {
        BigInteger all = BigInteger.ONE;
        for (V v : vs) {
            if (v.kind == 0) {
                all = all.multiply(BigInteger.valueOf((v.b - v.a) / 4096 + 1));
            }
        }
        return all.min(BigInteger.valueOf(1000000)).intValueExact();
    }

    private List<Long> missesOfRows(int v, List<Map<Integer, Integer>> rowsToo) {
        List<Integer> told = new ArrayList<>();
        vs.forEach(x -> told.add(x.at));
        List<Long> found = new ArrayList<>();
        goThrough(0, v, found, rowsToo);
        for (int i = 0; i < told.size(); i++) {
            vs.get(i).at = told.get(i);
        }
        return found;
    }

    private void goThrough(int i, int v, List<Long> found, List<Map<Integer, Integer>> rowsToo) {
        if (i == vs.size()) {
            found.add(miss(v));
            Map<Integer, Integer> row = new HashMap<>();
            for (int k = 0; k < vs.size(); k++) {
                if (vs.get(k).kind == 0) {
                    row.put(k, vs.get(k).at);
                }
            }
            rowsToo.add(row);
        } else if (vs.get(i).kind != 0) {
            goThrough(i + 1, v, found, rowsToo);
        } else {
            for (int at = vs.get(i).a; at <= vs.get(i).b; at += 4096) {
                vs.get(i).at = at;
                goThrough(i + 1, v, found, rowsToo);
            }
        }
    }

    long worst(int v) {
        if (no(v)) {
            return Check.BAD_LONG;
        }
        if (rows() > 4000) {
            return Check.NOT_LONG;
        }
        List<Map<Integer, Integer>> all = new ArrayList<>();
        List<Long> misses = missesOfRows(v, all);
        long greatest = misses.stream().max(Long::compare).get();
        worstInputs = all.get(misses.indexOf(greatest));
        return greatest;
    }

    int worstAt(int i) {
        return worstInputs.getOrDefault(i, -2);
    }

    int above(int v, long m) {
        if (no(v)) {
            return -2;
        }
        if (rows() > 4000) {
            return -5;
        }
        return (int) missesOfRows(v, new ArrayList<>()).stream().filter(miss -> miss > m).count();
    }

    // ---- widths

    private List<V> worked() {
        List<V> found = new ArrayList<>();
        for (V v : vs) {
            if (v.kind > 1) {
                found.add(v);
            }
        }
        return found;
    }

    int least(int v, long m) {
        if (no(v) || m < 0) {
            return -2;
        }
        List<V> all = worked();
        if (all.size() > 6) {
            return -5;
        }
        int choices = (int) Math.pow(5, all.size());
        int[] told = all.stream().mapToInt(x -> x.bits).toArray();
        int best = -1;
        int bestPrice = 0;
        for (int choice = 0; choice < choices; choice++) {
            choose(all, choice);
            // the choices come in the order that settles like prices
            if ((best < 0 || price() < bestPrice) && bound(v).longValue() <= m) {
                best = choice;
                bestPrice = price();
            }
        }
        if (best < 0) {
            for (int i = 0; i < told.length; i++) {
                all.get(i).bits = told[i];
            }
            return -5;
        }
        choose(all, best);
        return bestPrice;
    }

    private static void choose(List<V> all, int choice) {
        for (int i = all.size() - 1; i >= 0; i--) {
            all.get(i).bits = choice % 5 * 4;
            choice /= 5;
        }
    }

    int trim(int v, long m) {
        if (no(v) || m < 0) {
            return -2;
        }
        if (floor(v) > m) {
            return -5;
        }
        worked().forEach(x -> x.bits = 16);
        for (V x : worked()) {
            while (x.bits > 0 && bound(v).longValue() <= m) {
                x.bits--;
            }
            if (bound(v).longValue() > m) {
                x.bits++;
            }
        }
        return price();
    }

    long floor(int v) {
        if (no(v)) {
            return Check.BAD_LONG;
        }
        int[] told = vs.stream().mapToInt(x -> x.bits).toArray();
        vs.forEach(x -> x.bits = 16);
        long found = bound(v).longValue();
        for (int i = 0; i < told.length; i++) {
            vs.get(i).bits = told[i];
        }
        return found;
    }

    long gain(int v, int w) {
        if (no(v) || no(w)) {
            return Check.BAD_LONG;
        }
        long before = bound(v).longValue();
        int told = vs.get(w).bits;
        vs.get(w).bits = 16;
        long after = bound(v).longValue();
        vs.get(w).bits = told;
        return before - after;
    }

    int blame(int v) {
        if (no(v)) {
            return -2;
        }
        int found = -1;
        for (int w = vs.size() - 1; w >= 0; w--) {
            if (vs.get(w).kind > 1 && gain(v, w) > 0 && (found < 0 || gain(v, w) >= gain(v, found))) {
                found = w;
            }
        }
        return found;
    }

    int count(int what) {
        switch (what) {
            case 0: return vs.size();
            case 1: return (int) vs.stream().filter(v -> v.kind == 0).count();
            case 2: return price();
            case 3: return worked().size();
            default: return -2;
        }
    }

    long digest() {
        BigInteger h = BigInteger.valueOf(17);
        for (int what = 0; what < 4; what++) {
            h = next(h, count(what));
        }
        for (int v = 0; v < vs.size(); v++) {
            for (int what = 0; what < 10; what++) {
                h = next(h, about(v, what));
            }
            h = next(next(h, exact(v)), tuned(v));
        }
        return h.longValue();
    }

    private static BigInteger next(BigInteger h, long more) {
        return h.multiply(BigInteger.valueOf(31)).add(BigInteger.valueOf(more));
    }
}
