import java.util.ArrayList;
import java.util.HashMap;
import java.util.List;
import java.util.Map;
import java.util.TreeMap;

/**
 * The document once more, in its own order and words, with no thought for speed or for the rules of LANGUAGE.md:
 * whole rows are kept and compared as the document compares them.
 */
final class Plain {
    private final int samples;
    private final double metre;
    private final Map<String, Double> told = new HashMap<>();
    private final Map<Integer, Boolean> lost = new HashMap<>();
    private final Map<Integer, Double> edited = new HashMap<>();
    private final Map<Integer, Double> tides = new HashMap<>();
    private final Map<Integer, Double> degrees = new HashMap<>();
    private final TreeMap<Double, Double> speeds = new TreeMap<>();
    private final TreeMap<Double, Double> balls = new TreeMap<>();
    private double spread = 0.0;
    private double absorb = 0.0;
    private double noise = 0.0;
    private int chosen = 0;
    private int frequencyOfRun = 0;
    private TreeMap<Integer, Integer> row = null;

    Plain(int samples, int eighths) {
        this.samples = samples < 1 ? 1 : samples > 64 ? 64 : samples;
        this.metre = eighths < 1 || eighths > 800 ? 1.0 : eighths * 0.125;
    }

    private static boolean isIn(double v, double least, double most) {
        return !Double.isNaN(v) && !(v < least) && !(v > most);
    }

    private static boolean isPing(int ping) {
        return 0 <= ping && ping <= 31;
    }

    private boolean isSample(int k) {
        return 0 <= k && k < samples;
    }

    private double range(int k) {
        return (k + 1) * metre;
    }

    private long strength(int f, int ping, int k) {
        Double v = told.get(f + "/" + ping + "/" + k);
        if (v == null || lost.containsKey(ping)) {
            return 0;
        }
        double r = range(k);
        long cut = (long) (v + spread * r + absorb * r * r * 0.001 - noise);
        return cut < 0 ? 0 : cut;
    }

    boolean value(int ping, int k, double v) {
        boolean good = isPing(ping) && isSample(k) && isIn(v, 0, 1000);
        if (good) {
            told.put(chosen + "/" + ping + "/" + k, v);
        }
        return good;
    }

    boolean loss(double spreadTold, double absorbTold) {
        boolean good = isIn(spreadTold, 0, 10) && isIn(absorbTold, 0, 10);
        if (good) {
            spread = spreadTold;
            absorb = absorbTold;
        }
        return good;
    }

    boolean noise(double v) {
        boolean good = isIn(v, 0, 1000);
        noise = good ? v : noise;
        return good;
    }

    /** A row: its sample of each ping of the walk, and its sum. */
    private static final class Row {
        final TreeMap<Integer, Integer> sampleOf = new TreeMap<>();
        long sum = 0;

        Row with(int ping, int k, long strength) {
            Row longer = new Row();
            longer.sampleOf.putAll(sampleOf);
            longer.sampleOf.put(ping, k);
            longer.sum = sum + strength;
            return longer;
        }

        boolean isBetterThan(Row other) {
            if (other == null || sum != other.sum) {
                return other == null || sum > other.sum;
            }
            for (int ping : sampleOf.descendingKeySet()) {
                if (!sampleOf.get(ping).equals(other.sampleOf.get(ping))) {
                    return sampleOf.get(ping) < other.sampleOf.get(ping);
                }
            }
            return false;
        }
    }

    private List<Integer> samplesThatCount(int ping) {
        List<Integer> all = new ArrayList<>();
        for (int k = 0; k < samples; k++) {
            all.add(k);
        }
        if (!edited.containsKey(ping)) {
            return all;
        }
        for (int k : all) {
            if (range(k) >= edited.get(ping)) {
                return List.of(k);
            }
        }
        return List.of(samples - 1);
    }

    int run(int pings, int steep) {
        List<Integer> walk = new ArrayList<>();
        for (int ping = 0; ping < 32; ping++) {
            if (ping < pings && (edited.containsKey(ping) || !lost.containsKey(ping) && !empty(ping))) {
                walk.add(ping);
            }
        }
        if (pings < 1 || pings > 32 || steep < 0 || steep > 64 || walk.isEmpty()) {
            return -1;
        }
        Map<Integer, Row> bestThatEndAt = new HashMap<>();
        int before = -1;
        for (int ping : walk) {
            Map<Integer, Row> longer = new HashMap<>();
            for (int k : samplesThatCount(ping)) {
                longer.put(k, longest(bestThatEndAt, before, ping, k, steep));
            }
            bestThatEndAt = longer;
            before = ping;
        }
        Row best = null;
        for (Row one : bestThatEndAt.values()) {
            best = one.isBetterThan(best) ? one : best;
        }
        row = best.sampleOf;
        frequencyOfRun = chosen;
        return (int) best.sum;
    }

    private Row longest(Map<Integer, Row> rows, int before, int ping, int k, int steep) {
        Row best = before < 0 ? new Row() : null;
        for (Map.Entry<Integer, Row> one : rows.entrySet()) {
            boolean free = edited.containsKey(before) || edited.containsKey(ping);
            if ((free || Math.abs(one.getKey() - k) <= steep) && one.getValue().isBetterThan(best)) {
                best = one.getValue();
            }
        }
        return best.with(ping, k, strength(chosen, ping, k));
    }

    /** BOTTOM without tide; not a number where there is none. */
    private double depth(int ping) {
        if (row == null || !isPing(ping)) {
            return Double.NaN;
        }
        if (row.containsKey(ping)) {
            return edited.containsKey(ping) ? edited.get(ping) : range(row.get(ping));
        }
        Integer first = row.lowerKey(ping);
        Integer other = row.higherKey(ping);
        if (first == null || other == null || other - first > 4) {
            return Double.NaN;
        }
        double a = depth(first);
        double b = depth(other);
        return a + (b - a) * (ping - first) / (other - first);
    }

    double bottom(int ping) {
        return Double.isNaN(depth(ping)) ? -1.0 : depth(ping) + tides.getOrDefault(ping, 0.0);
    }

    boolean greatest() {
        return row != null;
    }

    boolean edit(int ping, double depth) {
        boolean good = isPing(ping) && isIn(depth, 0, 10000);
        if (good) {
            edited.put(ping, depth);
        }
        return good;
    }

    boolean lost(int ping) {
        if (isPing(ping)) {
            lost.put(ping, true);
        }
        return isPing(ping);
    }

    int bridged(int k) {
        List<Integer> all = new ArrayList<>();
        for (int ping = 0; ping < 32; ping++) {
            if (!Double.isNaN(depth(ping)) && !row.containsKey(ping)) {
                all.add(ping);
            }
        }
        return k >= 0 && k < all.size() ? all.get(k) : -1;
    }

    double dead(int ping) {
        return Double.isNaN(depth(ping)) ? -1.0 : 0.5 * metre + 0.02 * depth(ping);
    }

    double surface(int ping) {
        for (int k = 0; k < samples && isPing(ping); k++) {
            if (strength(chosen, ping, k) < 500) {
                return k * metre;
            }
        }
        return isPing(ping) ? samples * metre : -1.0;
    }

    int kind(int ping) {
        double behind = tail(ping);
        return behind == -1.0 ? -1 : behind < 200.0 ? 0 : behind < 2000.0 ? 1 : 2;
    }

    boolean speed(double depth, double v) {
        return isIn(depth, 0, 10000) && isIn(v, 1300, 1700) && put(speeds, depth, v);
    }

    /** 0.0 + 0.0 is 0.0, of -0.0 too: the tree would tell them apart. */
    private static boolean put(TreeMap<Double, Double> rows, double from, double v) {
        if (!rows.containsKey(from + 0.0) && rows.size() == 20) {
            return false;
        }
        rows.put(from + 0.0, v);
        return true;
    }

    double bent(int ping, int k) {
        if (!isPing(ping) || !isSample(k)) {
            return -1.0;
        }
        double way = 0.0;
        for (int i = 0; i <= k; i++) {
            Map.Entry<Double, Double> from = speeds.floorEntry(i * metre);
            from = from == null ? speeds.firstEntry() : from;
            way = way + metre * (from == null ? 1500.0 : from.getValue()) / 1500.0;
        }
        double x = 0.017453292519943295 * degrees.getOrDefault(ping, 0.0);
        return way * (1.0 - x * x * 0.5) + tides.getOrDefault(ping, 0.0);
    }

    boolean frequency(int f) {
        boolean good = 0 <= f && f <= 3;
        chosen = good ? f : chosen;
        return good;
    }

    double joined(int f, int ping, int k) {
        if (f < 0 || f > 3 || !isPing(ping) || !isSample(k)) {
            return -1.0;
        }
        double s = strength(f, ping, k);
        double a = range(k) * range(k);
        double b = range(k + 1) * range(k + 1);
        return k == samples - 1 ? s : (s * a + strength(f, ping, k + 1) * b) / (a + b);
    }

    boolean ball(double day, double v) {
        return isIn(day, 0, 100000) && isIn(v, 0.1, 10) && put(balls, day, v);
    }

    double factor(double day) {
        if (balls.isEmpty() || !isIn(day, 0, 100000)) {
            return 1.0;
        }
        Map.Entry<Double, Double> one = balls.floorEntry(day + 0.0);
        Map.Entry<Double, Double> next = balls.higherEntry(day + 0.0);
        if (one == null || next == null) {
            return one == null ? next.getValue() : one.getValue();
        }
        double d = one.getKey();
        double a = one.getValue();
        return a + (next.getValue() - a) * ((day - d) / (next.getKey() - d));
    }

    boolean tide(int ping, double v) {
        boolean good = isPing(ping) && isIn(v, -20, 20);
        if (good) {
            tides.put(ping, v);
        }
        return good;
    }

    double tail(int ping) {
        if (row == null || !row.containsKey(ping)) {
            return -1.0;
        }
        int k = edited.containsKey(ping) ? samplesThatCount(ping).get(0) : row.get(ping);
        double sum = 0.0;
        for (int other = k + 1; other < samples && other <= k + 8; other++) {
            sum += strength(frequencyOfRun, ping, other);
        }
        return sum;
    }

    double map(double x, double y) {
        double sum = 0.0;
        double weights = 0.0;
        for (int ping = 0; ping < 32; ping++) {
            if (!Double.isNaN(depth(ping))) {
                double w = 1.0 / (1.0 + (x - ping) * (x - ping) + y * y);
                sum = sum + w * bottom(ping);
                weights = weights + w;
            }
        }
        return weights == 0.0 || !isIn(x, -1e6, 1e6) || !isIn(y, -1e6, 1e6) ? -1.0 : sum / weights;
    }

    boolean turned(int ping, double degree) {
        boolean good = isPing(ping) && isIn(degree, -45, 45);
        if (good) {
            degrees.put(ping, degree);
        }
        return good;
    }

    boolean empty(int ping) {
        for (int k = 0; k < samples; k++) {
            if (told.containsKey(chosen + "/" + ping + "/" + k)) {
                return false;
            }
        }
        return true;
    }
}
