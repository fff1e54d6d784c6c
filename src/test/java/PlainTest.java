/**
 * All promises at once: 1500 boats, each with up to 512 calls, answer as Plain does. Arguments lie mostly near the
 * ends that the document names; the calls are the same each time.
 */
public final class PlainTest {
    private static final double[] DEPTHS = {
        0.0, -0.0, 0.5, 1.0, 1.25, 2.0, Math.nextUp(2.0), 3.0, 7.5, 10000.0, Math.nextUp(10000.0), -1.0, Double.NaN
    };
    private static final double[] VALUES = {
        0.0, 0.9, 1.0, 1.5, 2.0, 3.0, 199.0, 200.0, 499.0, 500.0, 999.5, 1000.0, 1000.5, -0.5, Double.NaN
    };
    private static final double[] SMALL = {0.0, 0.1, 0.7, 1.0, 9.9, 10.0, 10.1, -0.1, Double.NaN};
    private static final double[] SPEEDS = {1300.0, 1299.9, 1400.0, 1500.0, 1555.5, 1700.0, 1700.1, Double.NaN};
    private static final double[] SIGNED = {
        -20.1, -20.0, -45.0, -45.1, -1.0, -2.0, 0.0, 1.5, 20.0, 20.1, 45.0, 45.1, Double.NaN, Double.NEGATIVE_INFINITY
    };
    private static final double[] PLACES = {
        0.0, 1.5, 7.0, -3.25, 31.0, 1000000.0, -1000000.0, 1000000.5, -1000000.5, Double.NaN
    };
    private static long seed = 20261119L;

    public static void main(String[] args) {
        for (int boat = 0; boat < 1500; boat++) {
            int samples = next(8) == 0 ? next(70) - 2 : 1 + next(7);
            int eighths = next(8) == 0 ? next(900) - 20 : 4 * (1 + next(3));
            BottomWalks x = new BottomWalks(samples, eighths);
            Plain due = new Plain(samples, eighths);
            int pings = 4 + next(30);
            for (int call = 0; call < 512; call++) {
                if (next(3) == 0) {
                    ask("boat " + boat + " call " + call, x, due, next(pings), next(samples + 2) - 1);
                } else {
                    tell("boat " + boat + " call " + call, x, due, next(pings) - next(2), next(samples + 2) - 1);
                }
            }
        }
        Due.end();
    }

    private static void tell(String call, BottomWalks x, Plain due, int ping, int k) {
        double one = any(SMALL);
        double other = any(SMALL);
        double place = any(DEPTHS);
        int number = next(5) == 0 ? next(36) - 2 : 32;
        int steep = next(9) == 0 ? 63 + next(4) : next(6) - 1;
        int f = next(6) - 1;
        switch (next(24)) {
            case 0: same(call + " loss", due.loss(one, other), x.loss(one, other)); break;
            case 1: same(call + " noise", due.noise(one * 3), x.noise(one * 3)); break;
            case 2: same(call + " edit", due.edit(ping, place), x.edit(ping, place)); break;
            case 3: tellLost(call, x, due, ping); break;
            case 4: same(call + " tide", due.tide(ping, place - 3), x.tide(ping, place - 3)); break;
            case 5: tellSpeed(call, x, due, place + next(9) * 0.25); break;
            case 6: same(call + " frequency", due.frequency(f), x.frequency(f)); break;
            case 7: tellBall(call, x, due, place * 10 + next(9)); break;
            case 8: tellSigned(call, x, due, ping); break;
            case 9: case 10: case 11: case 12:
                Due.whole(call + " run", due.run(number, steep), x.run(number, steep)); break;
            default: tellValue(call, x, due, ping, k);
        }
    }

    /** Seldom, so that some pings are left. */
    private static void tellLost(String call, BottomWalks x, Plain due, int ping) {
        if (next(4) == 0) {
            same(call + " lost", due.lost(ping), x.lost(ping));
        }
    }

    private static void tellSpeed(String call, BottomWalks x, Plain due, double place) {
        double v = any(SPEEDS);
        same(call + " speed", due.speed(place, v), x.speed(place, v));
    }

    private static void tellBall(String call, BottomWalks x, Plain due, double day) {
        double v = any(SMALL);
        same(call + " ball", due.ball(day, v), x.ball(day, v));
    }

    private static void tellSigned(String call, BottomWalks x, Plain due, int ping) {
        double v = any(SIGNED);
        if (next(2) == 0) {
            same(call + " tide", due.tide(ping, v), x.tide(ping, v));
        } else {
            same(call + " turned", due.turned(ping, v), x.turned(ping, v));
        }
    }

    private static void tellValue(String call, BottomWalks x, Plain due, int ping, int k) {
        double v = any(VALUES);
        same(call + " value", due.value(ping, k, v), x.value(ping, k, v));
    }

    private static void ask(String call, BottomWalks x, Plain due, int ping, int k) {
        int f = next(6) - 1;
        double day = any(DEPTHS) * 10 + next(40) * 0.5;
        double at = any(PLACES);
        double beside = any(PLACES);
        switch (next(12)) {
            case 0: case 1: Due.number(call + " bottom", due.bottom(ping), x.bottom(ping)); break;
            case 2: same(call + " greatest", due.greatest(), x.greatest()); break;
            case 3: Due.whole(call + " bridged", due.bridged(k), x.bridged(k)); break;
            case 4: Due.number(call + " dead", due.dead(ping), x.dead(ping)); break;
            case 5: Due.number(call + " surface", due.surface(ping), x.surface(ping)); break;
            case 6: Due.whole(call + " kind", due.kind(ping), x.kind(ping)); break;
            case 7: Due.number(call + " bent", due.bent(ping, k), x.bent(ping, k)); break;
            case 8: Due.number(call + " joined", due.joined(f, ping, k), x.joined(f, ping, k)); break;
            case 9: Due.number(call + " factor", due.factor(day), x.factor(day)); break;
            case 10: Due.number(call + " tail", due.tail(ping), x.tail(ping)); break;
            default: askMapOrEmpty(call, x, due, ping, at, beside);
        }
    }

    private static void askMapOrEmpty(String call, BottomWalks x, Plain due, int ping, double at, double beside) {
        if (next(2) == 0) {
            Due.number(call + " map", due.map(at, beside), x.map(at, beside));
        } else {
            same(call + " empty", due.empty(ping), x.empty(ping));
        }
    }

    private static void same(String call, boolean due, boolean got) {
        Due.whole(call, due ? 1 : 0, got ? 1 : 0);
    }

    private static double any(double[] numbers) {
        return numbers[next(numbers.length)];
    }

    private static int next(int bound) {
        seed = seed * 6364136223846793005L + 1442695040888963407L;
        return bound < 1 ? 0 : (int) ((seed >>> 33) % bound);
    }
}
