/**
 * Any calls with any arguments: none throws, and those that are asked leave everything as it was. The calls are
 * the same each time.
 */
public final class AnyCallsTest {
    private static final int[] INTS = {
        Integer.MIN_VALUE, Integer.MIN_VALUE + 1, -65, -2, -1, 0, 1, 2, 3, 4, 5, 31, 32, 33, 63, 64, 65,
        Integer.MAX_VALUE - 1, Integer.MAX_VALUE
    };
    private static final double[] DOUBLES = {
        Double.NaN, Double.NEGATIVE_INFINITY, -Double.MAX_VALUE, -1000000.0, -45.0, -20.0, -1.0, -Double.MIN_VALUE,
        -0.0, 0.0, Double.MIN_VALUE, 0.1, 1.0, 10.0, 20.0, 45.0, 500.0, 1000.0, 1500.0, 1700.0, 10000.0, 100000.0,
        1000000.0, Double.MAX_VALUE, Double.POSITIVE_INFINITY
    };
    private static long seed = 4711L;

    /** Each object is called at most 379 + 12 + 2 * 5 * 12 times: no more is promised of it than 512 calls. */
    public static void main(String[] args) {
        for (int object = 0; object < 4000; object++) {
            BottomWalks x = new BottomWalks(anyInt(), anyInt());
            int calls = 0;
            while (calls < 380) {
                calls += changeOrAsk(x);
            }
            long before = ask(x, object);
            Due.whole("asked twice", before, ask(x, object));
        }
        Due.end();
    }

    /** How many calls it made. */
    private static int changeOrAsk(BottomWalks x) {
        switch (next(20)) {
            case 0: case 1: case 2: case 3: case 4: x.value(anyInt(), anyInt(), anyDouble()); return 1;
            case 5: x.loss(anyDouble(), anyDouble()); return 1;
            case 6: x.noise(anyDouble()); return 1;
            case 7: case 8: x.run(anyInt(), anyInt()); return 1;
            case 9: x.edit(anyInt(), anyDouble()); return 1;
            case 10: x.lost(anyInt()); return 1;
            case 11: case 12: x.speed(anyDouble(), anyDouble()); return 1;
            case 13: case 14: x.ball(anyDouble(), anyDouble()); return 1;
            case 15: x.frequency(anyInt()); return 1;
            case 16: x.tide(anyInt(), anyDouble()); return 1;
            case 17: x.turned(anyInt(), anyDouble()); return 1;
            case 18: x.value(next(32), next(9), next(8000) * 0.125); return 1;
            default: askOne(x, anyInt(), anyInt(), anyInt(), anyDouble()); return 12;
        }
    }

    private static long ask(BottomWalks x, int first) {
        long mixed = 0L;
        for (int i = 0; i < 5; i++) {
            int at = first + i * 7;
            mixed = mixed * 31 + askOne(x, INTS[at % INTS.length], INTS[(at / 3) % INTS.length],
                    INTS[(at / 5) % INTS.length], DOUBLES[at % DOUBLES.length]);
        }
        return mixed;
    }

    /** Twelve questions. */
    private static long askOne(BottomWalks x, int ping, int k, int f, double v) {
        double[] numbers = {
            x.bottom(ping), x.dead(ping), x.surface(ping), x.bent(ping, k), x.joined(f, ping, k), x.factor(v),
            x.tail(ping), x.map(v, k)
        };
        long mixed = x.bridged(k) * 31L + x.kind(ping);
        mixed = mixed * 4 + (x.greatest() ? 1 : 0) + (x.empty(ping) ? 2 : 0);
        for (double number : numbers) {
            if (number != number || number > 1.0e9 || number < -1.0e9) {
                Due.number("an answer within reason", 0.0, number);
            }
            mixed = mixed * 31 + Double.doubleToLongBits(number);
        }
        return mixed;
    }

    private static int anyInt() {
        return next(3) == 0 ? INTS[next(INTS.length)] : next(34) - 1;
    }

    private static double anyDouble() {
        return next(2) == 0 ? DOUBLES[next(DOUBLES.length)] : next(17000) * 0.125;
    }

    private static int next(int bound) {
        seed = seed * 6364136223846793005L + 1442695040888963407L;
        return (int) ((seed >>> 33) % bound);
    }
}
