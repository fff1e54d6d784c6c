/** Promises 12, 13 and 21 at their edges: samples counted from the first one on, and behind the bottom. */
public final class TailAndSurfaceTest {
    public static void main(String[] args) {
        tailOfEveryLength();
        tailOfEveryEdit();
        tailOfEveryFrequency();
        kindEnds();
        surfaceOfEveryLength();
        surfaceEnds();
        Due.end();
    }

    /** Each sample behind the bottom has its own bit, so that the sum tells which of them are in it. */
    private static void tailOfEveryLength() {
        for (int samples = 1; samples <= 20; samples++) {
            for (int row = 0; row < samples; row++) {
                BottomWalks x = new BottomWalks(samples, 8);
                x.value(0, row, 1000.0);
                x.run(1, 0);
                int due = 0;
                for (int k = row + 1; k < samples && k <= row + 9; k++) {
                    int strength = 1 << (k - row - 1);
                    x.value(0, k, strength);
                    due += k <= row + 8 ? strength : 0;
                }
                if (row > 0) {
                    x.value(0, row - 1, 999.0);
                }
                Due.number("tail behind " + row + " of " + samples, due, x.tail(0));
                Due.number("of the ping behind it", -1.0, x.tail(1));
            }
        }
    }

    private static void tailOfEveryEdit() {
        for (int k = 0; k < 12; k++) {
            BottomWalks before = new BottomWalks(12, 8);
            BottomWalks after = new BottomWalks(12, 8);
            int due = 0;
            for (int other = 0; other < 12; other++) {
                before.value(0, other, 1 << (other % 10));
                after.value(0, other, 1 << (other % 10));
                due += other > k && other <= k + 8 ? 1 << (other % 10) : 0;
            }
            before.edit(0, k + 1.0);
            before.run(1, 0);
            Due.number("edited before the run to sample " + k, due, before.tail(0));
            after.run(1, 0);
            Due.number("not edited", 3.0, after.tail(0));
            after.edit(0, k + 0.5);
            Due.number("edited after the run to sample " + k, due, after.tail(0));
            after.edit(0, Math.nextDown(k + 1.0));
            Due.number("just to sample " + k, due, after.tail(0));
        }
    }

    private static void tailOfEveryFrequency() {
        for (int walked = 0; walked < 4; walked++) {
            BottomWalks x = new BottomWalks(2, 8);
            for (int f = 0; f < 4; f++) {
                x.frequency(f);
                x.value(5, 0, 500.0);
                x.value(5, 1, 10.0 + f);
            }
            x.frequency(walked);
            x.run(32, 0);
            for (int f = 0; f < 4; f++) {
                x.frequency(f);
                Due.number("tail in the frequency walked", 10.0 + walked, x.tail(5));
            }
            x.frequency(walked);
            x.value(5, 1, 77.0);
            x.frequency((walked + 1) % 4);
            Due.number("told there now", 77.0, x.tail(5));
            Due.whole("a run that is refused", -1, x.run(33, 0));
            Due.number("does not change its frequency", 77.0, x.tail(5));
            Due.whole("a run over no ping", -1, x.run(4, 0));
            Due.number("does not change its frequency", 77.0, x.tail(5));
            x.run(6, 0);
            Due.number("a new run does", 10.0 + (walked + 1) % 4, x.tail(5));
        }
    }

    private static void kindEnds() {
        double[][] behindAndKind = {
            {0.0, 0.0, 0}, {199.0, 0.0, 0}, {Math.nextDown(200.0), 0.0, 0}, {199.5, 0.75, 0}, {200.0, 0.0, 1},
            {199.0, 1.0, 1}, {201.0, 0.0, 1}, {1000.0, 999.0, 1}, {1000.0, Math.nextDown(1000.0), 1},
            {1000.0, 1000.0, 2}
        };
        for (double[] row : behindAndKind) {
            BottomWalks x = new BottomWalks(9, 8);
            x.value(31, 0, 1000.0);
            Due.whole("no run", -1, x.kind(31));
            x.run(32, 0);
            x.value(31, 1, row[0]);
            x.value(31, 8, row[1]);
            Due.whole("kind of " + row[0] + " + " + row[1], (long) row[2], x.kind(31));
            Due.whole("not walked over", -1, x.kind(30));
        }
        BottomWalks most = new BottomWalks(9, 800);
        most.loss(10.0, 10.0);
        most.value(0, 0, 1000.0);
        most.edit(0, 0.0);
        most.run(1, 0);
        for (int k = 1; k < 9; k++) {
            most.value(0, k, 1000.0);
        }
        Due.number("the most there can be behind 900 metres", 8 * 1000.0 + 44 * 1000.0 + 284 * 100.0, most.tail(0));
        Due.whole("is of kind 2", 2, most.kind(0));
    }

    private static void surfaceOfEveryLength() {
        for (int row = 0; row <= 64; row++) {
            BottomWalks x = new BottomWalks(64, 5);
            for (int k = 0; k < 64; k++) {
                x.value(31, k, k == row ? 499.0 : 500.0);
            }
            Due.number(row + " in a row from the first one on", row * 0.625, x.surface(31));
            Due.number("none of the other ping", 0.0, x.surface(0));
        }
        BottomWalks only = new BottomWalks(1, 800);
        Due.number("an only sample, not told", 0.0, only.surface(0));
        only.value(0, 0, 500.0);
        Due.number("an only sample", 100.0, only.surface(0));
    }

    private static void surfaceEnds() {
        double[] values = {0.0, 499.0, Math.nextDown(500.0), 500.0, Math.nextUp(500.0), 501.0, 1000.0};
        double[] deep = {0.0, 0.0, 0.0, 1.0, 1.0, 1.0, 1.0};
        for (int i = 0; i < values.length; i++) {
            BottomWalks x = new BottomWalks(2, 8);
            x.value(0, 0, values[i]);
            Due.number("surface of " + values[i], deep[i], x.surface(0));
            x.noise(500.0);
            Due.number("with noise", values[i] == 1000.0 ? 1.0 : 0.0, x.surface(0));
        }
    }
}
