/**
 * The ends that the document tells, from inside: the least and the most, and the numbers next to them, are taken and
 * have their effect. What lies just outside is tried by RefusedTest.
 */
public final class EndsTest {
    private static final double TURN = 0.017453292519943295;

    private interface Told {
        boolean of(BottomWalks x, double v);
    }

    public static void main(String[] args) {
        everyNumberWithinItsEnds();
        samples();
        eighths();
        firstAndLastIndices();
        valueEnds();
        lossEnds();
        noiseEnds();
        runEnds();
        editEnds();
        speedDepthEnds();
        speedEnds();
        frequencyEnds();
        ballEnds();
        dayEnds();
        tideEnds();
        mapEnds();
        turnedEnds();
        Due.end();
    }

    private static void everyNumberWithinItsEnds() {
        taken("2 value", 0.0, 1000.0, (x, v) -> x.value(0, 0, v));
        taken("3 spread", 0.0, 10.0, (x, v) -> x.loss(v, 5.0));
        taken("3 absorb", 0.0, 10.0, (x, v) -> x.loss(5.0, v));
        taken("4 noise", 0.0, 1000.0, (x, v) -> x.noise(v));
        taken("8 edit", 0.0, 10000.0, (x, v) -> x.edit(0, v));
        taken("14 speed's depth", 0.0, 10000.0, (x, v) -> x.speed(v, 1500.0));
        taken("14 speed", 1300.0, 1700.0, (x, v) -> x.speed(3.0, v));
        taken("18 ball's day", 0.0, 100000.0, (x, v) -> x.ball(v, 1.0));
        taken("18 ball", 0.1, 10.0, (x, v) -> x.ball(30.0, v));
        taken("20 tide", -20.0, 20.0, (x, v) -> x.tide(0, v));
        taken("23 turned", -45.0, 45.0, (x, v) -> x.turned(0, v));
    }

    private static void taken(String call, double least, double most, Told told) {
        double[] inside = {least, Math.nextUp(least), (least + most) / 2.0, Math.nextDown(most), most};
        for (double v : inside) {
            Due.yes(call + " " + v + " of a new boat", told.of(Boats.make(Boats.NAMES[0]), v));
            Due.yes(call + " " + v + " of a boat that was told", told.of(Boats.make(Boats.NAMES[1]), v));
        }
        if (least <= 0.0) {
            Due.yes(call + " -0.0", told.of(Boats.make(Boats.NAMES[0]), -0.0));
            Due.yes(call + " 0.0", told.of(Boats.make(Boats.NAMES[0]), 0.0));
        }
    }

    private static void samples() {
        int[][] toldAndDue = {
            {Integer.MIN_VALUE, 1}, {-1, 1}, {0, 1}, {1, 1}, {2, 2}, {63, 63}, {64, 64}, {65, 64}, {66, 64},
            {Integer.MAX_VALUE, 64}
        };
        for (int[] pair : toldAndDue) {
            BottomWalks x = new BottomWalks(pair[0], 8);
            int last = pair[1] - 1;
            Due.yes("1 " + pair[0] + " samples, first", x.value(0, 0, 7.0));
            Due.yes("1 " + pair[0] + " samples, last", x.value(31, last, 9.0));
            Due.no("1 " + pair[0] + " samples, behind the last", x.value(31, last + 1, 9.0));
            Due.number("1 " + pair[0] + " samples, last joined", 9.0, x.joined(0, 31, last));
            Due.number("1 " + pair[0] + " samples, behind the last", -1.0, x.joined(0, 31, last + 1));
            Due.number("1 " + pair[0] + " samples, last bent", pair[1], x.bent(31, last));
            Due.number("1 " + pair[0] + " samples, behind the last", -1.0, x.bent(31, last + 1));
            Due.whole("1 " + pair[0] + " samples, run", 16, x.run(32, 64));
            Due.number("1 " + pair[0] + " samples, last bottom", pair[1], x.bottom(31));
        }
    }

    private static void eighths() {
        int[] eighths = {Integer.MIN_VALUE, -1, 0, 1, 2, 799, 800, 801, Integer.MAX_VALUE};
        double[] metres = {1.0, 1.0, 1.0, 0.125, 0.25, 99.875, 100.0, 1.0, 1.0};
        for (int i = 0; i < eighths.length; i++) {
            BottomWalks x = new BottomWalks(2, eighths[i]);
            x.value(0, 0, 600.0);
            x.value(0, 1, 700.0);
            Due.number("1 " + eighths[i] + " eighths, bent", metres[i] + metres[i], x.bent(0, 1));
            Due.number("1 " + eighths[i] + " eighths, surface", 2 * metres[i], x.surface(0));
            Due.whole("1 " + eighths[i] + " eighths, run", 700, x.run(1, 0));
            Due.number("1 " + eighths[i] + " eighths, bottom", 2 * metres[i], x.bottom(0));
            Due.number("1 " + eighths[i] + " eighths, dead", 0.5 * metres[i] + 0.02 * (2 * metres[i]), x.dead(0));
        }
    }

    /** Ping 0 and ping 31, sample 0 and the last one, frequency 0 and 3: each is taken, and is its own. */
    private static void firstAndLastIndices() {
        int[] pings = {0, 31};
        int[] sampleNumbers = {0, 63};
        int[] frequencies = {0, 3};
        for (int ping : pings) {
            for (int k : sampleNumbers) {
                for (int f : frequencies) {
                    oneSample(f, ping, k);
                }
            }
        }
    }

    private static void oneSample(int f, int ping, int k) {
        String place = "sample " + f + " " + ping + " " + k + ": ";
        BottomWalks x = new BottomWalks(64, 8);
        Due.yes(place + "16 frequency", x.frequency(f));
        Due.yes(place + "2 value", x.value(ping, k, 640.0));
        Due.no(place + "24 empty", x.empty(ping));
        Due.yes(place + "24 the other end is empty", x.empty(31 - ping));
        Due.number(place + "12 surface", k == 0 ? 1.0 : 0.0, x.surface(ping));
        Due.number(place + "17 joined", k == 0 ? 640.0 / (1.0 + 4.0) : 640.0, x.joined(f, ping, k));
        Due.number(place + "17 other frequency", 0.0, x.joined(3 - f, ping, k));
        Due.number(place + "17 other ping", 0.0, x.joined(f, 31 - ping, k));
        Due.number(place + "17 other sample", 0.0, x.joined(f, ping, 63 - k));
        Due.whole(place + "5 run", 640, x.run(32, 0));
        Due.number(place + "6 bottom", k + 1, x.bottom(ping));
        Due.number(place + "21 tail", 0.0, x.tail(ping));
        Due.whole(place + "13 kind", 0, x.kind(ping));
        Due.yes(place + "20 tide", x.tide(ping, 0.5));
        Due.number(place + "6 bottom with it", k + 1 + 0.5, x.bottom(ping));
        Due.number(place + "15 bent with it", k + 1 + 0.5, x.bent(ping, k));
        Due.yes(place + "23 turned", x.turned(ping, 3.0));
        double angle = TURN * 3.0;
        Due.number(place + "15 bent with both", (k + 1) * (1.0 - angle * angle * 0.5) + 0.5, x.bent(ping, k));
        Due.yes(place + "8 edit", x.edit(ping, 7.25));
        Due.number(place + "6 bottom edited", 7.75, x.bottom(ping));
        Due.yes(place + "9 lost", x.lost(ping));
        Due.number(place + "17 joined, lost", 0.0, x.joined(f, ping, k));
    }

    private static double strengthOfOne(BottomWalks x) {
        return x.joined(0, 0, 0);
    }

    private static void valueEnds() {
        double[] told = {0.0, -0.0, Double.MIN_VALUE, Math.nextDown(1.0), 1.0, Math.nextDown(1000.0), 1000.0};
        double[] strengths = {0.0, 0.0, 0.0, 0.0, 1.0, 999.0, 1000.0};
        for (int i = 0; i < told.length; i++) {
            BottomWalks x = new BottomWalks(1, 8);
            Due.yes("2 value " + told[i], x.value(0, 0, told[i]));
            Due.no("2 value " + told[i] + " is told", x.empty(0));
            Due.number("2 value " + told[i], strengths[i], strengthOfOne(x));
            Due.whole("2 value " + told[i] + " is walked over", (long) strengths[i], x.run(1, 0));
        }
    }

    /** At a range of 100.0 the most of spread gives 1000, the most of absorb 100. */
    private static void lossEnds() {
        BottomWalks x = new BottomWalks(1, 800);
        x.value(0, 0, 0.0);
        Due.number("3 0.0 at first", 0.0, strengthOfOne(x));
        Due.yes("3 the most spread", x.loss(10.0, 0.0));
        Due.number("3 the most spread", 1000.0, strengthOfOne(x));
        Due.yes("3 just less spread", x.loss(Math.nextDown(10.0), 0.0));
        Due.number("3 just less spread", 999.0, strengthOfOne(x));
        Due.yes("3 the most absorb", x.loss(0.0, 10.0));
        Due.number("3 the most absorb", 100.0, strengthOfOne(x));
        Due.yes("3 just less absorb", x.loss(0.0, Math.nextDown(10.0)));
        Due.number("3 just less absorb", 99.0, strengthOfOne(x));
        Due.yes("3 the most of both", x.loss(10.0, 10.0));
        Due.number("3 the most of both", 1100.0, strengthOfOne(x));
        Due.yes("3 the least of both", x.loss(0.0, 0.0));
        Due.number("3 the least of both", 0.0, strengthOfOne(x));
    }

    private static void noiseEnds() {
        BottomWalks x = new BottomWalks(1, 800);
        x.loss(5.0, 0.0);
        x.value(0, 0, 1000.0);
        Due.number("4 0.0 at first", 1500.0, strengthOfOne(x));
        Due.yes("4 the most", x.noise(1000.0));
        Due.number("4 the most", 500.0, strengthOfOne(x));
        Due.yes("4 the least above 0", x.noise(0.0001));
        Due.number("4 the least above 0", 1499.0, strengthOfOne(x));
        Due.yes("4 the least", x.noise(0.0));
        Due.number("4 the least", 1500.0, strengthOfOne(x));
    }

    private static void runEnds() {
        int[] pings = {1, 2, 31, 32};
        int[] steep = {0, 1, 63, 64};
        for (int count : pings) {
            for (int most : steep) {
                BottomWalks x = new BottomWalks(64, 8);
                for (int ping = 0; ping < 32; ping++) {
                    x.value(ping, 5, 1.0);
                }
                Due.whole("5 run over " + count + " with " + most, count, x.run(count, most));
                Due.number("5 the last of them", 6.0, x.bottom(count - 1));
                Due.number("5 the one behind it", -1.0, x.bottom(count));
            }
        }
    }

    private static void editEnds() {
        double[] depths = {0.0, -0.0, Double.MIN_VALUE, Math.nextDown(10000.0), 10000.0};
        for (double depth : depths) {
            BottomWalks x = new BottomWalks(2, 8);
            Due.yes("8 edit to " + depth, x.edit(31, depth));
            Due.whole("8 walked over", 0, x.run(32, 0));
            Due.number("8 edited to " + depth, depth, x.bottom(31));
            Due.number("8 dead of " + depth, 0.5 + 0.02 * depth, x.dead(31));
        }
    }

    /** The deepest sample's depth is 63 * 100: rows at it, just above it and just below it. */
    private static void speedDepthEnds() {
        double[] depths = {0.0, 6300.0, Math.nextDown(6300.0), Math.nextUp(6300.0), 10000.0};
        double[] lastSpeeds = {1600.0, 1600.0, 1600.0, 1400.0, 1400.0};
        for (int i = 0; i < depths.length; i++) {
            BottomWalks x = new BottomWalks(64, 800);
            x.speed(0.0, 1400.0);
            Due.yes("14 from " + depths[i], x.speed(depths[i], 1600.0));
            double way = 0.0;
            for (int k = 0; k < 64; k++) {
                way = way + 100.0 * (depths[i] == 0.0 ? 1600.0 : k < 63 ? 1400.0 : lastSpeeds[i]) / 1500.0;
            }
            Due.number("15 with a row from " + depths[i], way, x.bent(0, 63));
        }
    }

    private static void speedEnds() {
        double[] speeds = {1300.0, Math.nextUp(1300.0), 1500.0, Math.nextDown(1700.0), 1700.0};
        for (double v : speeds) {
            BottomWalks x = new BottomWalks(2, 8);
            Due.yes("14 speed " + v, x.speed(0.0, v));
            Due.number("14 speed " + v, 0.0 + 1.0 * v / 1500.0 + 1.0 * v / 1500.0, x.bent(0, 1));
        }
    }

    private static void frequencyEnds() {
        BottomWalks x = new BottomWalks(1, 8);
        x.value(0, 0, 10.0);
        Due.yes("16 the last", x.frequency(3));
        Due.yes("16 nothing is told in it", x.empty(0));
        x.value(0, 0, 13.0);
        Due.yes("16 the first", x.frequency(0));
        Due.whole("16 the first", 10, x.run(1, 0));
        Due.yes("16 the last", x.frequency(3));
        Due.whole("16 the last", 13, x.run(1, 0));
    }

    private static void ballEnds() {
        double[] days = {0.0, Double.MIN_VALUE, Math.nextDown(100000.0), 100000.0};
        double[] balls = {0.1, Math.nextUp(0.1), Math.nextDown(10.0), 10.0};
        for (double day : days) {
            for (double v : balls) {
                BottomWalks x = new BottomWalks(1, 8);
                Due.yes("18 ball " + v + " of day " + day, x.ball(day, v));
                Due.number("19 its own day", v, x.factor(day));
                Due.number("19 the first day", v, x.factor(0.0));
                Due.number("19 the last day", v, x.factor(100000.0));
            }
        }
    }

    private static void dayEnds() {
        BottomWalks x = new BottomWalks(1, 8);
        x.ball(0.0, 2.0);
        x.ball(100000.0, 6.0);
        Due.number("19 day 0", 2.0, x.factor(0.0));
        Due.number("19 day 0 with its other sign", 2.0, x.factor(-0.0));
        Due.number("19 the next day", 2.0 + (6.0 - 2.0) * ((1.0 - 0.0) / (100000.0 - 0.0)), x.factor(1.0));
        double last = Math.nextDown(100000.0);
        Due.number("19 just before the last", 2.0 + (6.0 - 2.0) * ((last - 0.0) / (100000.0 - 0.0)), x.factor(last));
        Due.number("19 the last", 6.0, x.factor(100000.0));
        Due.number("19 just behind the last", 1.0, x.factor(Math.nextUp(100000.0)));
        Due.number("19 just before the first", 1.0, x.factor(Math.nextDown(0.0)));
    }

    private static void tideEnds() {
        double[] tides = {-20.0, Math.nextUp(-20.0), -0.0, 0.0, Math.nextDown(20.0), 20.0};
        for (double v : tides) {
            BottomWalks x = new BottomWalks(4, 8);
            x.value(31, 3, 5.0);
            x.run(32, 0);
            Due.number("20 0.0 at first", 4.0, x.bottom(31));
            Due.yes("20 tide " + v, x.tide(31, v));
            Due.number("20 bottom with " + v, 4.0 + v, x.bottom(31));
            Due.number("20 bent with " + v, 4.0 + v, x.bent(31, 3));
            Due.number("20 dead without it", 0.5 + 0.02 * 4.0, x.dead(31));
            Due.number("20 map with " + v, 4.0 + v, x.map(31.0, 0.0));
        }
    }

    private static void mapEnds() {
        double[] places = {-1000000.0, Math.nextUp(-1000000.0), 0.0, Math.nextDown(1000000.0), 1000000.0};
        BottomWalks x = new BottomWalks(9, 8);
        x.value(0, 1, 5.0);
        x.value(31, 8, 5.0);
        x.run(32, 64);
        for (double at : places) {
            for (double beside : places) {
                double w0 = 1.0 / (1.0 + (at - 0) * (at - 0) + beside * beside);
                double w31 = 1.0 / (1.0 + (at - 31) * (at - 31) + beside * beside);
                Due.number("22 map " + at + ", " + beside, (0.0 + w0 * 2.0 + w31 * 9.0) / (0.0 + w0 + w31),
                        x.map(at, beside));
            }
        }
    }

    private static void turnedEnds() {
        double[] degrees = {-45.0, Math.nextUp(-45.0), -0.0, 0.0, 1.0, Math.nextDown(45.0), 45.0};
        for (double v : degrees) {
            BottomWalks x = new BottomWalks(3, 800);
            Due.number("23 0.0 at first", 300.0, x.bent(31, 2));
            Due.yes("23 turned " + v, x.turned(31, v));
            double angle = TURN * v;
            Due.number("23 turned " + v, 300.0 * (1.0 - angle * angle * 0.5), x.bent(31, 2));
        }
    }
}
