/**
 * Any calls with any arguments: none throws, and those that are asked leave everything as it was. The calls are
 * the same each time.
 */
public final class AnyCallsTest {
    private static final int[] INTS = {
        Integer.MIN_VALUE, Integer.MIN_VALUE + 1, -65, -2, -1, 0, 1, 2, 3, 4, 5, 31, 32, 33, 63, 64, 65,
        Integer.MAX_VALUE - 1, Integer.MAX_VALUE
    };
    private static final double[] DOUBLES = {
        Double.NaN, Double.NEGATIVE_INFINITY, -Double.MAX_VALUE, -1000000.0, -45.0, -20.0, -1.0, -Double.MIN_VALUE,
        -0.0, 0.0, Double.MIN_VALUE, 0.1, 1.0, 10.0, 20.0, 45.0, 500.0, 1000.0, 1500.0, 1700.0, 10000.0, 100000.0,
        1000000.0, Double.MAX_VALUE, Double.POSITIVE_INFINITY
    };
    private static long seed = 4711L;

    public static void main(String[] args) {
        for (int object = 0; object < 400; object++) {
            BottomWalks x = new BottomWalks(anyInt(), anyInt());
            for (int call = 0; call < 512; call++) {
                changeOrAsk(x);
            }
            long before = ask(x);
            Due.whole("asked twice", before, ask(x));
        }
        Due.end();
    }

    private static void changeOrAsk(BottomWalks x) {
        switch (next(16)) {
            case 0: case 1: case 2: x.value(anyInt(), anyInt(), anyDouble()); break;
            case 3: x.loss(anyDouble(), anyDouble()); break;
            case 4: x.noise(anyDouble()); break;
            case 5: case 6: x.run(anyInt(), anyInt()); break;
            case 7: x.edit(anyInt(), anyDouble()); break;
            case 8: x.lost(anyInt()); break;
            case 9: x.speed(anyDouble(), anyDouble()); break;
            case 10: x.ball(anyDouble(), anyDouble()); break;
            case 11: x.frequency(anyInt()); break;
            case 12: x.tide(anyInt(), anyDouble()); break;
            case 13: x.turned(anyInt(), anyDouble()); break;
            default: askOne(x, anyInt(), anyInt(), anyInt(), anyDouble());
        }
    }

    private static long ask(BottomWalks x) {
        long mixed = 0L;
        for (int ping : INTS) {
            for (int k : INTS) {
                for (int f : INTS) {
                    mixed = mixed * 31 + askOne(x, ping, k, f, DOUBLES[(f & 7) + (k & 15)]);
                }
            }
        }
        return mixed;
    }

    private static long askOne(BottomWalks x, int ping, int k, int f, double v) {
        double[] numbers = {
            x.bottom(ping), x.dead(ping), x.surface(ping), x.bent(ping, k), x.joined(f, ping, k), x.factor(v),
            x.tail(ping), x.map(v, k)
        };
        long mixed = x.bridged(k) * 31L + x.kind(ping);
        mixed = mixed * 4 + (x.greatest() ? 1 : 0) + (x.empty(ping) ? 2 : 0);
        for (double number : numbers) {
            if (number != number || number > 1.0e9 || number < -1.0e9) {
                Due.number("an answer within reason", 0.0, number);
            }
            mixed = mixed * 31 + Double.doubleToLongBits(number);
        }
        return mixed;
    }

    private static int anyInt() {
        return next(3) == 0 ? INTS[next(INTS.length)] : next(34) - 1;
    }

    private static double anyDouble() {
        return next(2) == 0 ? DOUBLES[next(DOUBLES.length)] : next(17000) * 0.125;
    }

    private static int next(int bound) {
        seed = seed * 6364136223846793005L + 1442695040888963407L;
        return (int) ((seed >>> 33) % bound);
    }
}
