/** Promises 1, 2, 3, 4, 9, 12, 16, 17 and 24: what is told of samples, and their strengths. */
public final class SamplesTest {
    private static final double[] NO_NUMBERS = {
        Double.NaN, Double.POSITIVE_INFINITY, Double.NEGATIVE_INFINITY, Double.MAX_VALUE, -Double.MAX_VALUE
    };

    public static void main(String[] args) {
        newObject();
        samplesAreBounded();
        metreIsBounded();
        value();
        strengthIsCut();
        loss();
        noise();
        lostPings();
        surface();
        frequency();
        joined();
        joinedOfEverySample();
        empty();
        Due.end();
    }

    /** The strength of a sample, read from a last sample, which joined() answers as it is. */
    private static double strengthOfLast(BottomWalks x, int samples) {
        return x.joined(0, 0, samples - 1);
    }

    private static void newObject() {
        BottomWalks x = new BottomWalks(5, 16);
        Due.no("1 new greatest()", x.greatest());
        Due.number("1 new tail(0)", -1.0, x.tail(0));
        for (int ping = 0; ping < 32; ping++) {
            Due.yes("1 new empty(" + ping + ")", x.empty(ping));
            Due.number("1 new bottom", -1.0, x.bottom(ping));
            Due.number("1 new dead", -1.0, x.dead(ping));
            Due.whole("1 new kind", -1, x.kind(ping));
            Due.number("1 new surface", 0.0, x.surface(ping));
            Due.number("1 new bent", 10.0, x.bent(ping, 4));
            Due.number("1 new joined", 0.0, x.joined(3, ping, 4));
        }
        Due.number("1 new factor", 1.0, x.factor(7.0));
        Due.number("1 new map", -1.0, x.map(1.0, 1.0));
        Due.whole("1 new bridged", -1, x.bridged(0));
        Due.whole("1 new run", -1, x.run(32, 64));
    }

    private static void samplesAreBounded() {
        int[][] toldAndDue = {
            {Integer.MIN_VALUE, 1}, {-1, 1}, {0, 1}, {1, 1}, {2, 2}, {63, 63}, {64, 64}, {65, 64},
            {Integer.MAX_VALUE, 64}
        };
        for (int[] pair : toldAndDue) {
            BottomWalks x = new BottomWalks(pair[0], 8);
            Due.yes("1 last of " + pair[0], x.value(31, pair[1] - 1, 1.0));
            Due.no("1 behind the last of " + pair[0], x.value(31, pair[1], 1.0));
            Due.number("1 bent, last of " + pair[0], pair[1], x.bent(0, pair[1] - 1));
            Due.number("1 bent, behind the last of " + pair[0], -1.0, x.bent(0, pair[1]));
        }
    }

    private static void metreIsBounded() {
        int[] eighths = {Integer.MIN_VALUE, -8, 0, 1, 2, 8, 799, 800, 801, Integer.MAX_VALUE};
        double[] metres = {1.0, 1.0, 1.0, 0.125, 0.25, 1.0, 99.875, 100.0, 1.0, 1.0};
        for (int i = 0; i < eighths.length; i++) {
            Due.number("1 metre of " + eighths[i], metres[i], new BottomWalks(3, eighths[i]).bent(0, 0));
        }
    }

    private static void value() {
        BottomWalks x = new BottomWalks(3, 8);
        Due.no("2 ping -1", x.value(-1, 0, 1.0));
        Due.no("2 ping 32", x.value(32, 0, 1.0));
        Due.no("2 ping greatest", x.value(Integer.MAX_VALUE, 0, 1.0));
        Due.no("2 ping least", x.value(Integer.MIN_VALUE, 0, 1.0));
        Due.no("2 sample -1", x.value(1, -1, 1.0));
        Due.no("2 sample 3", x.value(0, 3, 1.0));
        Due.no("2 sample greatest", x.value(0, Integer.MAX_VALUE, 1.0));
        Due.no("2 sample least", x.value(0, Integer.MIN_VALUE, 1.0));
        Due.no("2 below 0", x.value(0, 2, -0.0001));
        Due.no("2 above 1000", x.value(0, 2, 1000.0001));
        for (double v : NO_NUMBERS) {
            Due.no("2 " + v, x.value(0, 2, v));
        }
        for (int ping = -1; ping <= 32; ping++) {
            Due.yes("2 refused values tell nothing", x.empty(ping));
        }
        Due.yes("2 the most", x.value(0, 2, 1000.0));
        Due.number("2 the most", 1000.0, strengthOfLast(x, 3));
        Due.no("2 refused later", x.value(0, 2, 1001.0));
        Due.number("2 refused changes nothing", 1000.0, strengthOfLast(x, 3));
        Due.yes("2 again", x.value(0, 2, 12.0));
        Due.number("2 again", 12.0, strengthOfLast(x, 3));
        Due.yes("2 the least", x.value(0, 2, 0.0));
        Due.number("2 the least", 0.0, strengthOfLast(x, 3));
        Due.yes("2 less than nothing by its sign alone", x.value(5, 1, -0.0));
        Due.no("2 that was told", x.empty(5));
        Due.yes("2 the last ping", x.value(31, 0, 7.0));
        Due.no("2 the last ping was told", x.empty(31));
        Due.yes("2 its neighbour was not", x.empty(30));
    }

    private static void strengthIsCut() {
        BottomWalks x = new BottomWalks(2, 8);
        x.value(0, 1, 3.999);
        Due.number("strength is cut", 3.0, strengthOfLast(x, 2));
        x.noise(4.5);
        Due.number("strength is not below 0", 0.0, strengthOfLast(x, 2));
        x.noise(2.5);
        Due.number("strength is cut behind the noise", 1.0, strengthOfLast(x, 2));
        x.noise(0.0);
        x.loss(10.0, 10.0);
        Due.number("nothing told is 0, with loss too", 0.0, x.joined(0, 1, 1));
        Due.number("cut of 3.999 + 20 + 0.04", 24.0, strengthOfLast(x, 2));
        x.value(0, 1, 0.0);
        Due.number("0 told is told: 20 + 0.04", 20.0, strengthOfLast(x, 2));
        x.noise(1000.0);
        Due.number("far below 0 it is 0", 0.0, strengthOfLast(x, 2));
        BottomWalks deep = new BottomWalks(64, 800);
        deep.value(0, 63, 5.0);
        Due.number("nothing is lost at first, however deep", 5.0, strengthOfLast(deep, 64));
    }

    private static void loss() {
        BottomWalks x = new BottomWalks(8, 80);
        x.value(0, 7, 10.0);
        Due.yes("3 spread", x.loss(0.5, 0.0));
        Due.number("3 spread times range", 50.0, strengthOfLast(x, 8));
        Due.yes("3 absorb", x.loss(0.0, 0.5));
        Due.number("3 absorb times range twice, in thousandths", 13.0, strengthOfLast(x, 8));
        Due.yes("3 both", x.loss(10.0, 10.0));
        Due.number("3 both", 874.0, strengthOfLast(x, 8));
        double[][] refused = {
            {-0.001, 1.0}, {10.001, 1.0}, {1.0, -0.001}, {1.0, 10.001}, {Double.NaN, 1.0}, {1.0, Double.NaN},
            {Double.POSITIVE_INFINITY, 1.0}, {1.0, Double.POSITIVE_INFINITY}, {Double.NEGATIVE_INFINITY, 1.0}
        };
        for (double[] pair : refused) {
            Due.no("3 " + pair[0] + ", " + pair[1], x.loss(pair[0], pair[1]));
            Due.number("3 refused changes nothing", 874.0, strengthOfLast(x, 8));
        }
        Due.yes("3 none", x.loss(0.0, 0.0));
        Due.number("3 none", 10.0, strengthOfLast(x, 8));
    }

    private static void noise() {
        BottomWalks x = new BottomWalks(1, 8);
        x.value(0, 0, 1000.0);
        Due.yes("4 some", x.noise(250.25));
        Due.number("4 some", 749.0, strengthOfLast(x, 1));
        Due.no("4 below", x.noise(-0.001));
        Due.no("4 above", x.noise(1000.001));
        for (double v : NO_NUMBERS) {
            Due.no("4 " + v, x.noise(v));
        }
        Due.number("4 refused changes nothing", 749.0, strengthOfLast(x, 1));
        Due.yes("4 most", x.noise(1000.0));
        Due.number("4 most", 0.0, strengthOfLast(x, 1));
        Due.yes("4 least", x.noise(0.0));
        Due.number("4 least", 1000.0, strengthOfLast(x, 1));
    }

    private static void lostPings() {
        BottomWalks x = new BottomWalks(2, 8);
        x.value(0, 1, 900.0);
        x.value(31, 0, 900.0);
        int[] none = {-1, 32, Integer.MIN_VALUE, Integer.MAX_VALUE};
        for (int ping : none) {
            Due.no("9 " + ping, x.lost(ping));
        }
        Due.number("9 not lost yet", 900.0, strengthOfLast(x, 2));
        Due.yes("9 the first", x.lost(0));
        Due.number("9 its strength is 0", 0.0, strengthOfLast(x, 2));
        Due.no("9 it was told all the same", x.empty(0));
        Due.yes("9 again", x.lost(0));
        Due.yes("9 told anew", x.value(0, 1, 800.0));
        Due.number("9 lost from now on", 0.0, strengthOfLast(x, 2));
        Due.number("9 others are not", 1.0, x.surface(31));
        Due.whole("9 only the other is walked over", 900, x.run(32, 64));
        Due.number("9 a lost one has no bottom", -1.0, x.bottom(0));
        Due.yes("9 the last", x.lost(31));
        Due.whole("9 no ping is left", -1, x.run(32, 64));
        Due.number("9 the run before stays", 1.0, x.bottom(31));
    }

    private static void surface() {
        BottomWalks x = new BottomWalks(4, 20);
        x.value(2, 0, 500.0);
        x.value(2, 1, 1000.0);
        x.value(2, 2, 499.99);
        x.value(2, 3, 1000.0);
        Due.number("12 two in a row", 5.0, x.surface(2));
        x.value(2, 2, 500.0);
        Due.number("12 all", 10.0, x.surface(2));
        x.value(2, 0, 499.0);
        Due.number("12 none from the first on", 0.0, x.surface(2));
        x.loss(0.4, 0.0);
        Due.number("12 strengths as they are now", 10.0, x.surface(2));
        x.noise(1.0);
        Due.number("12 noise too", 0.0, x.surface(2));
        x.noise(0.0);
        x.frequency(1);
        Due.number("12 the chosen frequency", 0.0, x.surface(2));
        x.value(2, 0, 600.0);
        Due.number("12 told there", 2.5, x.surface(2));
        x.lost(2);
        Due.number("12 lost", 0.0, x.surface(2));
        int[] none = {-1, 32, Integer.MIN_VALUE, Integer.MAX_VALUE};
        for (int ping : none) {
            Due.number("12 " + ping, -1.0, x.surface(ping));
        }
        Due.number("12 the last", 0.0, x.surface(31));
    }

    private static void frequency() {
        BottomWalks x = new BottomWalks(2, 8);
        x.value(0, 1, 10.0);
        for (int f = 1; f < 4; f++) {
            Due.yes("16 " + f, x.frequency(f));
            Due.yes("16 nothing told in " + f, x.empty(0));
            Due.yes("16 told", x.value(0, 1, 10.0 + f));
        }
        int[] none = {-1, 4, Integer.MIN_VALUE, Integer.MAX_VALUE};
        for (int f : none) {
            Due.no("16 " + f, x.frequency(f));
        }
        x.value(1, 1, 77.0);
        Due.number("16 refused changes nothing", 77.0, x.joined(3, 1, 1));
        for (int f = 0; f < 4; f++) {
            Due.number("16 each has its own", 10.0 + f, x.joined(f, 0, 1));
            x.frequency(f);
            Due.whole("16 each is walked on its own", f == 3 ? 90 : 10 + f, x.run(32, 64));
        }
        Due.yes("16 the first again", x.frequency(0));
        Due.whole("16 the first again", 10, x.run(32, 64));
    }

    private static void joined() {
        BottomWalks x = new BottomWalks(3, 4);
        x.frequency(2);
        x.value(4, 0, 100.0);
        x.value(4, 1, 350.5);
        x.value(4, 2, 60.0);
        Due.number("17 first", (100.0 * 0.25 + 350.0 * 1.0) / (0.25 + 1.0), x.joined(2, 4, 0));
        Due.number("17 second", (350.0 * 1.0 + 60.0 * 2.25) / (1.0 + 2.25), x.joined(2, 4, 1));
        Due.number("17 last", 60.0, x.joined(2, 4, 2));
        x.frequency(0);
        Due.number("17 of a frequency that is not chosen", 60.0, x.joined(2, 4, 2));
        int[][] none = {
            {-1, 4, 0}, {4, 4, 0}, {2, -1, 0}, {2, 32, 0}, {2, 4, -1}, {2, 4, 3}, {2, 4, Integer.MAX_VALUE},
            {2, 4, Integer.MIN_VALUE}, {Integer.MAX_VALUE, 4, 0}, {2, Integer.MAX_VALUE, 0}
        };
        for (int[] call : none) {
            Due.number("17 none such", -1.0, x.joined(call[0], call[1], call[2]));
        }
        x.loss(1.0, 0.0);
        Due.number("17 strengths as they are now", 61.0, x.joined(2, 4, 2));
        x.lost(4);
        Due.number("17 lost", 0.0, x.joined(2, 4, 0));
        BottomWalks one = new BottomWalks(1, 800);
        one.value(31, 0, 5.0);
        Due.number("17 an only sample is the last one", 5.0, one.joined(0, 31, 0));
    }

    /** From the first to the last but one with the next one; the last alone; of each frequency, whichever is chosen. */
    private static void joinedOfEverySample() {
        int[] counts = {1, 2, 3, 64};
        for (int samples : counts) {
            BottomWalks x = new BottomWalks(samples, 3);
            for (int f = 2; f < 4; f++) {
                x.frequency(f);
                for (int k = 0; k < samples; k++) {
                    x.value(31, k, strengthOf(f, k));
                }
            }
            for (int chosen = 0; chosen < 4; chosen += 2) {
                x.frequency(chosen);
                joinedOfFrequency(x, samples, 2);
                joinedOfFrequency(x, samples, 3);
            }
        }
    }

    private static double strengthOf(int f, int k) {
        return 17.0 * f + k * k % 37;
    }

    private static void joinedOfFrequency(BottomWalks x, int samples, int f) {
        for (int k = 0; k < samples - 1; k++) {
            double a = ((k + 1) * 0.375) * ((k + 1) * 0.375);
            double b = ((k + 2) * 0.375) * ((k + 2) * 0.375);
            double due = (strengthOf(f, k) * a + strengthOf(f, k + 1) * b) / (a + b);
            Due.number("17 of sample " + k + " of " + samples, due, x.joined(f, 31, k));
        }
        Due.number("17 of the last of " + samples, strengthOf(f, samples - 1), x.joined(f, 31, samples - 1));
        Due.number("17 behind the last of " + samples, -1.0, x.joined(f, 31, samples));
        Due.number("17 of a ping that was not told", 0.0, x.joined(f, 30, 0));
    }

    private static void empty() {
        BottomWalks x = new BottomWalks(64, 8);
        x.value(3, 63, 0.0);
        Due.no("24 one sample told, of 0", x.empty(3));
        Due.yes("24 another ping", x.empty(4));
        x.frequency(1);
        Due.yes("24 another frequency", x.empty(3));
        x.frequency(0);
        x.edit(4, 1.0);
        Due.yes("24 an edit tells no sample", x.empty(4));
        int[] none = {-1, 32, Integer.MIN_VALUE, Integer.MAX_VALUE};
        for (int ping : none) {
            Due.yes("24 none such " + ping, x.empty(ping));
        }
    }
}
