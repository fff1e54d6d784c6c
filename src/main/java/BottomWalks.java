import java.util.Arrays;

/**
 * Echoes of a boat's way: the bottom walked through all pings by the row of the greatest sum,
 * and what is asked of that row. The promises are those of DOC.md.
 */
public final class BottomWalks {
    public static final int NONE = -1;

    private static final int PINGS = 32;
    private static final int FREQUENCIES = 4;
    private static final int MOST_SAMPLES = 64;
    private static final int MOST_EIGHTHS = 800;
    private static final int MOST_STEEP = 64;
    private static final int MOST_OTHER_ROWS = 20;
    private static final int WIDEST_BRIDGE = 4;
    private static final int LONGEST_TAIL = 8;
    private static final long LEAST_BUBBLE = 500L;

    private final Echoes echoes;
    private final Walk walk;
    private final Table speeds = new Table();
    private final Table balls = new Table();
    private final double[] tides = new double[PINGS];
    private final double[] degreesTurned = new double[PINGS];
    private int chosen = 0;

    public BottomWalks(int samples, int eighths) {
        echoes = new Echoes(samples, eighths);
        walk = new Walk(echoes);
    }

    public boolean value(int ping, int k, double v) {
        return echoes.tell(chosen, ping, k, v);
    }

    public boolean loss(double spread, double absorb) {
        if (!within(spread, 0.0, 10.0) || !within(absorb, 0.0, 10.0)) {
            return false;
        }
        echoes.setLosses(spread, absorb);
        return true;
    }

    public boolean noise(double v) {
        if (!within(v, 0.0, 1000.0)) {
            return false;
        }
        echoes.setNoiseLevel(v);
        return true;
    }

    public int run(int pings, int steep) {
        if (pings < 1 || pings > PINGS || steep < 0 || steep > MOST_STEEP) {
            return NONE;
        }
        return walk.go(chosen, pings, steep);
    }

    public double bottom(int ping) {
        return isPing(ping) && walk.hasBottom(ping) ? walk.depthAt(ping) + tides[ping] : -1.0;
    }

    public boolean greatest() {
        return walk.wasFound();
    }

    public boolean edit(int ping, double metre2) {
        return walk.tellDepth(ping, metre2);
    }

    public boolean lost(int ping) {
        return echoes.lose(ping);
    }

    public int bridged(int k) {
        int bridgesBefore = 0;
        for (int ping = 0; ping < PINGS; ping++) {
            if (walk.isBridge(ping)) {
                if (bridgesBefore == k) {
                    return ping;
                }
                bridgesBefore++;
            }
        }
        return NONE;
    }

    public double dead(int ping) {
        return walk.hasBottom(ping) ? 0.5 * echoes.metre + 0.02 * walk.depthAt(ping) : -1.0;
    }

    public double surface(int ping) {
        if (!isPing(ping)) {
            return -1.0;
        }
        int bubbles = 0;
        while (bubbles < echoes.samples && echoes.strength(chosen, ping, bubbles) >= LEAST_BUBBLE) {
            bubbles++;
        }
        return bubbles * echoes.metre;
    }

    public int kind(int ping) {
        if (!walk.isWalked(ping)) {
            return NONE;
        }
        double behind = tail(ping);
        if (behind < 200.0) {
            return 0;
        }
        return behind < 2000.0 ? 1 : 2;
    }

    public boolean speed(double depth, double v) {
        return within(depth, 0.0, 10000.0) && within(v, 1300.0, 1700.0) && speeds.put(depth, v);
    }

    public double bent(int ping, int k) {
        if (!isPing(ping) || !echoes.isSample(k)) {
            return -1.0;
        }
        double way = 0.0;
        for (int i = 0; i <= k; i++) {
            way = way + echoes.metre * speeds.stepAt(i * echoes.metre, 1500.0) / 1500.0;
        }
        double x = 0.017453292519943295 * degreesTurned[ping];
        return way * (1.0 - x * x * 0.5) + tides[ping];
    }

    public boolean frequency(int f) {
        if (!isFrequency(f)) {
            return false;
        }
        chosen = f;
        return true;
    }

    public double joined(int f, int ping, int k) {
        if (!isFrequency(f) || !isPing(ping) || !echoes.isSample(k)) {
            return -1.0;
        }
        double s = echoes.strength(f, ping, k);
        if (!echoes.isSample(k + 1)) {
            return s;
        }
        double t = echoes.strength(f, ping, k + 1);
        double a = echoes.range(k) * echoes.range(k);
        double b = echoes.range(k + 1) * echoes.range(k + 1);
        return over(s * a + t * b, a + b);
    }

    public boolean ball(double day, double v) {
        return within(day, 0.0, 100000.0) && within(v, 0.1, 10.0) && balls.put(day, v);
    }

    public double factor(double day) {
        return within(day, 0.0, 100000.0) ? balls.slopeAt(day, 1.0) : 1.0;
    }

    public boolean tide(int ping, double v) {
        if (!isPing(ping) || !within(v, -20.0, 20.0)) {
            return false;
        }
        tides[ping] = v;
        return true;
    }

    public double tail(int ping) {
        return walk.isWalked(ping) ? walk.strengthsBehind(ping) : -1.0;
    }

    public double map(double x, double y) {
        if (!within(x, -1000000.0, 1000000.0) || !within(y, -1000000.0, 1000000.0)) {
            return -1.0;
        }
        double sum = 0.0;
        double weights = 0.0;
        for (int ping = 0; ping < PINGS; ping++) {
            if (walk.hasBottom(ping)) {
                double w = over(1.0, 1.0 + (x - ping) * (x - ping) + y * y);
                sum = sum + w * bottom(ping);
                weights = weights + w;
            }
        }
        return weights > 0.0 ? over(sum, weights) : -1.0;
    }

    public boolean turned(int ping, double degrees) {
        if (!isPing(ping) || !within(degrees, -45.0, 45.0)) {
            return false;
        }
        degreesTurned[ping] = degrees;
        return true;
    }

    public boolean empty(int ping2) {
        return echoes.isSilent(chosen, ping2);
    }

    private static boolean isPing(int ping) {
        return ping >= 0 && ping < PINGS;
    }

    private static boolean isFrequency(int f) {
        return f >= 0 && f < FREQUENCIES;
    }

    /** Written as what must hold, so that what is not a number is outside. */
    private static boolean within(double v, double least, double most) {
        return v >= least && v <= most;
    }

    /** Every divisor of the document is above 0.0; the test keeps an answer from being no number. */
    private static double over(double top, double under) {
        return under > 0.0 ? top / under : 0.0;
    }

    /** What was told of the samples, and the strengths that follow from it. */
    private static final class Echoes {
        final int samples;
        final double metre;
        // Below 0.0 where nothing was told: no value that is told can be.
        private final double[] values;
        private final boolean[] lostPings = new boolean[PINGS];
        private double spread = 0.0;
        private double absorb = 0.0;
        private double noiseLevel = 0.0;

        Echoes(int samples, int eighths) {
            this.samples = Math.max(1, Math.min(MOST_SAMPLES, samples));
            metre = eighths >= 1 && eighths <= MOST_EIGHTHS ? eighths * 0.125 : 1.0;
            values = new double[FREQUENCIES * PINGS * this.samples];
            Arrays.fill(values, -1.0);
        }

        boolean isSample(int k) {
            return k >= 0 && k < samples;
        }

        double range(int k) {
            return (k + 1) * metre;
        }

        void setLosses(double spreadTold, double absorbTold) {
            spread = spreadTold;
            absorb = absorbTold;
        }

        void setNoiseLevel(double level) {
            noiseLevel = level;
        }

        boolean tell(int f, int ping, int k, double v) {
            int place = placeOf(f, ping, k);
            if (place == NONE || !within(v, 0.0, 1000.0)) {
                return false;
            }
            values[place] = v;
            return true;
        }

        boolean lose(int ping) {
            if (!isPing(ping)) {
                return false;
            }
            lostPings[ping] = true;
            return true;
        }

        boolean isLost(int ping) {
            return isPing(ping) && lostPings[ping];
        }

        boolean isSilent(int f, int ping) {
            for (int k = 0; k < samples; k++) {
                int place = placeOf(f, ping, k);
                if (place != NONE && values[place] >= 0.0) {
                    return false;
                }
            }
            return true;
        }

        long strength(int f, int ping, int k) {
            int place = placeOf(f, ping, k);
            if (place == NONE || values[place] < 0.0 || isLost(ping)) {
                return 0L;
            }
            double r = range(k);
            long cut = (long) (values[place] + spread * r + absorb * r * r * 0.001 - noiseLevel);
            return Math.max(0L, cut);
        }

        /** The one sample that counts for a depth told by hand. */
        int sampleFor(double depth) {
            int k = 0;
            while (k < samples - 1 && range(k) < depth) {
                k++;
            }
            return k;
        }

        private int placeOf(int f, int ping, int k) {
            if (!isFrequency(f) || !isPing(ping) || !isSample(k)) {
                return NONE;
            }
            return (f * PINGS + ping) * samples + k;
        }
    }

    /** The pings of the latest run, the row found over them, and the depths told by hand. */
    private static final class Walk {
        private final Echoes echoes;
        // Below 0.0 where nothing was told: no depth that is told can be.
        private final double[] depthsTold = new double[PINGS];
        private final boolean[] walked = new boolean[PINGS];
        private final int[] row = new int[PINGS];
        // The greatest sum of a row that ends at a ping's sample; made once, as every run needs it.
        private final long[] sums;
        private int steepness = 0;
        private int frequencyWalked = 0;
        private boolean found = false;

        Walk(Echoes echoes) {
            this.echoes = echoes;
            sums = new long[PINGS * echoes.samples];
            Arrays.fill(depthsTold, -1.0);
        }

        boolean tellDepth(int ping, double depth) {
            if (!isPing(ping) || !within(depth, 0.0, 10000.0)) {
                return false;
            }
            depthsTold[ping] = depth;
            return true;
        }

        int go(int f, int pings, int steep) {
            if (!hasPing(f, pings)) {
                return NONE;
            }
            frequencyWalked = f;
            steepness = steep;
            found = true;
            for (int ping = 0; ping < PINGS; ping++) {
                walked[ping] = ping < pings && isForWalk(f, ping);
                if (walked[ping]) {
                    sumUp(ping, neighbour(ping, -1));
                }
            }
            return (int) traceBack();
        }

        boolean wasFound() {
            return found;
        }

        boolean isWalked(int ping) {
            return isPing(ping) && walked[ping];
        }

        boolean isBridge(int ping) {
            if (!isPing(ping) || isWalked(ping)) {
                return false;
            }
            int first = neighbour(ping, -1);
            int second = neighbour(ping, 1);
            return first != NONE && second != NONE && second - first <= WIDEST_BRIDGE;
        }

        boolean hasBottom(int ping) {
            return isWalked(ping) || isBridge(ping);
        }

        /** The bottom without tide, of a ping that has one. */
        double depthAt(int ping) {
            if (!isBridge(ping)) {
                return depthWalked(ping);
            }
            int first = neighbour(ping, -1);
            int second = neighbour(ping, 1);
            double a = depthWalked(first);
            double b = depthWalked(second);
            return a + over((b - a) * (ping - first), second - first);
        }

        /** What comes behind the row's sample; beyond the last sample there is no strength. */
        double strengthsBehind(int ping) {
            int k = isEdited(ping) ? lowest(ping) : sampleOfRow(ping);
            long sum = 0L;
            for (int i = 1; i <= LONGEST_TAIL; i++) {
                sum += echoes.strength(frequencyWalked, ping, k + i);
            }
            return sum;
        }

        private boolean hasPing(int f, int pings) {
            for (int ping = 0; ping < pings; ping++) {
                if (isForWalk(f, ping)) {
                    return true;
                }
            }
            return false;
        }

        private boolean isForWalk(int f, int ping) {
            return isEdited(ping) || (!echoes.isLost(ping) && !echoes.isSilent(f, ping));
        }

        private boolean isEdited(int ping) {
            return isPing(ping) && depthsTold[ping] >= 0.0;
        }

        private double depthWalked(int ping) {
            return isEdited(ping) ? depthsTold[ping] : echoes.range(sampleOfRow(ping));
        }

        private int sampleOfRow(int ping) {
            return isPing(ping) ? row[ping] : 0;
        }

        /** The next ping of the walk in a direction (1 or -1); NONE when there is none. */
        private int neighbour(int ping, int direction) {
            for (int i = 1; i < PINGS; i++) {
                if (isWalked(ping + i * direction)) {
                    return ping + i * direction;
                }
            }
            return NONE;
        }

        private int lowest(int ping) {
            return isEdited(ping) ? echoes.sampleFor(depthsTold[ping]) : 0;
        }

        private int highest(int ping) {
            return isEdited(ping) ? echoes.sampleFor(depthsTold[ping]) : echoes.samples - 1;
        }

        private void sumUp(int ping, int before) {
            int deepest = highest(ping);
            for (int k = lowest(ping); k <= deepest && echoes.isSample(k); k++) {
                long sum = echoes.strength(frequencyWalked, ping, k);
                if (before != NONE) {
                    sum += sumAt(before, bestBefore(before, ping, k));
                }
                sums[ping * echoes.samples + k] = sum;
            }
        }

        /** From the last ping to the first one: of equal rows the later pings decide. */
        private long traceBack() {
            long greatestSum = 0L;
            int behind = NONE;
            for (int ping = PINGS - 1; ping >= 0; ping--) {
                if (walked[ping]) {
                    row[ping] = bestBefore(ping, behind, sampleOfRow(behind));
                    greatestSum = behind == NONE ? sumAt(ping, row[ping]) : greatestSum;
                    behind = ping;
                }
            }
            return greatestSum;
        }

        /** The least deep of the best samples of a ping, of those that may come before sample k of the next one. */
        private int bestBefore(int ping, int next, int k) {
            int from = lowest(ping);
            int to = highest(ping);
            if (next != NONE && !isEdited(ping) && !isEdited(next)) {
                from = Math.max(from, k - steepness);
                to = Math.min(to, k + steepness);
            }
            int best = from;
            long greatestSum = sumAt(ping, from);
            for (int other = from + 1; other <= to; other++) {
                long sum = sumAt(ping, other);
                if (sum > greatestSum) {
                    best = other;
                    greatestSum = sum;
                }
            }
            return best;
        }

        private long sumAt(int ping, int k) {
            return isPing(ping) && echoes.isSample(k) ? sums[ping * echoes.samples + k] : 0L;
        }
    }

    /** Rows of a number each, in the order of what they begin at. */
    private static final class Table {
        private final double[] starts = new double[MOST_OTHER_ROWS];
        private final double[] numbers = new double[MOST_OTHER_ROWS];
        private int rows = 0;

        boolean put(double start, double number) {
            int at = rowsUpTo(start);
            if (at > 0 && starts[at - 1] == start) {
                numbers[at - 1] = number;
                return true;
            }
            if (rows >= MOST_OTHER_ROWS) {
                return false;
            }
            for (int i = rows; i > at; i--) {
                starts[i] = starts[i - 1];
                numbers[i] = numbers[i - 1];
            }
            starts[at] = start;
            numbers[at] = number;
            rows++;
            return true;
        }

        /** Each row holds from its start on, the first one also before; without rows it is otherwise. */
        double stepAt(double where, double otherwise) {
            if (rows == 0) {
                return otherwise;
            }
            return numbers[Math.max(0, rowsUpTo(where) - 1)];
        }

        /** As stepAt, but straight from row to row. */
        double slopeAt(double where, double otherwise) {
            int next = rowsUpTo(where);
            if (next < 1 || next >= rows) {
                return stepAt(where, otherwise);
            }
            double a = numbers[next - 1];
            double b = numbers[next];
            double d = starts[next - 1];
            double e = starts[next];
            return a + (b - a) * over(where - d, e - d);
        }

        private int rowsUpTo(double where) {
            int at = 0;
            while (at < rows && starts[at] <= where) {
                at++;
            }
            return at;
        }
    }
}
