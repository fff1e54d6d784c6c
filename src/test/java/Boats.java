/**
 * Objects to try calls on. Each is made anew by the same calls, at most 160 of them, so that Answers.of and a few
 * calls more stay within the 512 calls that the document grants an object.
 */
final class Boats {
    static final int SAMPLES = 6;
    static final String[] NAMES = {"a new boat", "a boat that was told", "a boat that was walked"};

    private Boats() {
    }

    static BottomWalks make(String name) {
        BottomWalks x = new BottomWalks(SAMPLES, 12);
        if (!name.equals(NAMES[0])) {
            tellAll(x);
        }
        if (name.equals(NAMES[2])) {
            walk(x);
        }
        return x;
    }

    /** Samples, edits, lost pings, tides, degrees, 19 rows of each table; no run. */
    private static void tellAll(BottomWalks x) {
        x.loss(0.5, 2.0);
        x.noise(3.5);
        tellSamples(x, 0, 3, 40.25);
        tellSamples(x, 3, 7, 620.5);
        tellSamples(x, 1, 2, 233.75);
        x.lost(6);
        x.lost(12);
        x.edit(12, 4.75);
        x.edit(21, 1.25);
        for (int i = 0; i < 19; i++) {
            x.speed(i * 0.5, 1300.0 + i * 20.0);
            x.ball(i * 10.0, 0.5 + i * 0.25);
        }
        x.tide(0, 1.5);
        x.tide(3, -2.25);
        x.tide(31, 20.0);
        x.turned(0, 12.0);
        x.turned(31, -45.0);
    }

    /** A run in frequency 1 with 20 rows of each table, and what is told after it; frequency 3 is chosen then. */
    private static void walk(BottomWalks x) {
        x.speed(10000.0, 1700.0);
        x.ball(100000.0, 10.0);
        x.run(31, 1);
        x.edit(5, 3.3);
        x.edit(8, 2.0);
        x.lost(7);
        x.frequency(3);
    }

    private static void tellSamples(BottomWalks x, int f, int step, double v) {
        x.frequency(f);
        for (int ping = f; ping < 32; ping += step) {
            x.value(ping, (ping * 5 + f) % SAMPLES, v + ping);
            x.value(ping, (ping * 3 + f) % SAMPLES, v - ping);
        }
    }
}
