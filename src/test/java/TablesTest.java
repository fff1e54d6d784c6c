/** Promises 14, 15, 18, 19 and 23: speeds, bent depths, balls, factors and degrees. */
public final class TablesTest {
    private static final double[] NO_NUMBERS = {
        Double.NaN, Double.POSITIVE_INFINITY, Double.NEGATIVE_INFINITY, Double.MAX_VALUE, -Double.MAX_VALUE
    };

    public static void main(String[] args) {
        speedRanges();
        speedSteps();
        twentySpeeds();
        rowsAroundASample();
        anyOrderOfSpeeds();
        bent();
        bentFromTheLeftToTheRight();
        bentOfMinusOne();
        turned();
        ballRanges();
        factor();
        aroundARow();
        factorFromTheLeftToTheRight();
        twentyBalls();
        everyNumberOfBalls();
        Due.end();
    }

    private static void speedRanges() {
        BottomWalks x = new BottomWalks(1, 8);
        double[][] refused = {{-0.001, 1500.0}, {10000.001, 1500.0}, {0.0, 1299.999}, {0.0, 1700.001}};
        for (double[] row : refused) {
            Due.no("14 " + row[0] + ", " + row[1], x.speed(row[0], row[1]));
        }
        for (double v : NO_NUMBERS) {
            Due.no("14 depth " + v, x.speed(v, 1500.0));
            Due.no("14 speed " + v, x.speed(0.0, v));
        }
        Due.number("14 refused changes nothing", 1.0, x.bent(0, 0));
        Due.yes("14 the greatest", x.speed(10000.0, 1700.0));
        Due.number("14 the least deep row holds before it", 1.0 * 1700.0 / 1500.0, x.bent(0, 0));
        Due.yes("14 the least", x.speed(0.0, 1300.0));
        Due.number("14 the least", 1.0 * 1300.0 / 1500.0, x.bent(0, 0));
        Due.no("14 refused of a depth that has one", x.speed(0.0, 1701.0));
        Due.number("14 refused changes nothing", 1.0 * 1300.0 / 1500.0, x.bent(0, 0));
        Due.yes("14 0 with its other sign is the same depth", x.speed(-0.0, 1400.0));
        Due.number("14 0 with its other sign is the same depth", 1.0 * 1400.0 / 1500.0, x.bent(0, 0));
    }

    private static void speedSteps() {
        BottomWalks x = new BottomWalks(6, 16);
        Due.yes("14 told in any order", x.speed(6.0, 1650.0));
        Due.yes("14 told in any order", x.speed(2.5, 1350.0));
        Due.yes("14 told in any order", x.speed(4.5, 1550.0));
        double[] speeds = {1350.0, 1350.0, 1350.0, 1650.0, 1650.0, 1650.0};
        double way = 0.0;
        for (int k = 0; k < 6; k++) {
            way = way + 2.0 * speeds[k] / 1500.0;
            Due.number("15 the deepest row that is not deeper, " + k, way, x.bent(9, k));
        }
        Due.yes("14 replaced", x.speed(6.0, 1400.0));
        Due.number("14 replaced", (((0.0 + 1.8) + 1.8) + 1.8) + 2.0 * 1400.0 / 1500.0, x.bent(9, 3));
        Due.yes("14 between", x.speed(3.5, 1600.0));
        Due.number("14 between", (0.0 + 1.8 + 1.8) + 2.0 * 1600.0 / 1500.0, x.bent(9, 2));
    }

    private static void twentySpeeds() {
        BottomWalks x = new BottomWalks(64, 8);
        for (int i = 19; i >= 0; i--) {
            Due.yes("14 row " + i, x.speed(i * 2, 1300.0 + i * 20));
        }
        Due.no("14 there are 20 others", x.speed(50.0, 1500.0));
        Due.no("14 also between", x.speed(1.0, 1500.0));
        double way = 0.0;
        for (int i = 0; i < 64; i++) {
            way = way + 1.0 * (1300.0 + Math.min(19, i / 2) * 20) / 1500.0;
        }
        Due.number("14 refused changes nothing", way, x.bent(0, 63));
        for (int i = 0; i < 20; i++) {
            Due.yes("14 one of the 20 is replaced", x.speed(i * 2, 1500.0));
        }
        Due.number("14 all replaced", 64.0, x.bent(0, 63));
        Due.no("14 there are still 20", x.speed(39.0, 1500.0));
    }

    /** The last sample of three is at depth 4.0: a row just there, just above it, just below it. */
    private static void rowsAroundASample() {
        double[] depths = {Math.nextDown(4.0), 4.0, Math.nextUp(4.0)};
        double[] speeds = {1600.0, 1600.0, 1400.0};
        for (int i = 0; i < depths.length; i++) {
            BottomWalks x = new BottomWalks(3, 16);
            x.speed(0.0, 1400.0);
            x.speed(depths[i], 1600.0);
            double first = 0.0 + 2.0 * 1400.0 / 1500.0 + 2.0 * 1400.0 / 1500.0;
            Due.number("15 before a row from " + depths[i], first, x.bent(0, 1));
            Due.number("15 at a row from " + depths[i], first + 2.0 * speeds[i] / 1500.0, x.bent(0, 2));
        }
        BottomWalks deeper = new BottomWalks(3, 16);
        deeper.speed(Math.nextUp(4.0), 1600.0);
        deeper.speed(9.0, 1350.0);
        Due.number("15 all rows are deeper: of the least deep", 0.0 + 2.0 * 1600.0 / 1500.0, deeper.bent(0, 0));
        deeper.speed(Double.MIN_VALUE, 1450.0);
        Due.number("15 still all deeper than 0", 0.0 + 2.0 * 1450.0 / 1500.0, deeper.bent(0, 0));
        deeper.speed(0.0, 1550.0);
        Due.number("15 one that is not deeper", 0.0 + 2.0 * 1550.0 / 1500.0, deeper.bent(0, 0));
    }

    private static void anyOrderOfSpeeds() {
        int[] strides = {1, 3, 7, 9, 11, 13, 17, 19};
        for (int stride : strides) {
            BottomWalks x = new BottomWalks(20, 8);
            for (int i = 0; i < 20; i++) {
                int row = (i * stride + 7) % 20;
                Due.yes("14 row " + row + " as number " + i, x.speed(row, 1300.0 + row * 7.0));
                Due.yes("14 told twice", x.speed(row, 1310.0 + row * 7.0));
            }
            double way = 0.0;
            for (int k = 0; k < 20; k++) {
                way = way + 1.0 * (1310.0 + k * 7.0) / 1500.0;
                Due.number("15 down to row " + k, way, x.bent(0, k));
            }
            Due.no("14 a 21st", x.speed(20.0, 1500.0));
            Due.no("14 a 21st between", x.speed(Math.nextUp(7.0), 1500.0));
        }
    }

    private static void bent() {
        BottomWalks x = new BottomWalks(3, 1);
        int[][] none = {
            {-1, 0}, {32, 0}, {0, -1}, {0, 3}, {Integer.MAX_VALUE, 0}, {Integer.MIN_VALUE, 0},
            {0, Integer.MAX_VALUE}, {0, Integer.MIN_VALUE}
        };
        for (int[] call : none) {
            Due.number("15 none such", -1.0, x.bent(call[0], call[1]));
        }
        Due.number("15 first", 0.125, x.bent(0, 0));
        Due.number("15 last of the last", 0.375, x.bent(31, 2));
        x.tide(4, -1.5);
        x.turned(4, 30.0);
        double angle = 0.017453292519943295 * 30.0;
        Due.number("15 turned, with tide", 0.375 * (1.0 - angle * angle * 0.5) + -1.5, x.bent(4, 2));
        Due.number("15 each ping has its own", 0.375, x.bent(5, 2));
        x.tide(5, -1.375);
        Due.number("15 it may be -1.0, too", -1.0, x.bent(5, 2));
    }

    private static void bentFromTheLeftToTheRight() {
        double[] speeds = {1300.0, 1301.1, 1433.3, 1499.9, 1510.7, 1699.9};
        int[] eighths = {1, 3, 7, 77, 799};
        for (double v : speeds) {
            for (int part : eighths) {
                BottomWalks x = new BottomWalks(64, part);
                x.speed(0.0, v);
                x.turned(3, 17.3);
                x.tide(3, 1.7);
                double angle = 0.017453292519943295 * 17.3;
                double metre = part * 0.125;
                double way = 0.0;
                for (int k = 0; k < 64; k++) {
                    way = way + metre * v / 1500.0;
                    Due.number("15 way at " + v + " to " + k, way, x.bent(2, k));
                    Due.number("15 turned, with tide", way * (1.0 - angle * angle * 0.5) + 1.7, x.bent(3, k));
                }
            }
        }
    }

    private static void bentOfMinusOne() {
        BottomWalks x = new BottomWalks(2, 8);
        x.tide(0, -2.0);
        Due.number("15 truly at -1.0", -1.0, x.bent(0, 0));
        Due.number("15 and the next one at 0.0", 0.0, x.bent(0, 1));
        Due.number("15 of no sample", -1.0, x.bent(0, 2));
        x.tide(0, -20.0);
        Due.number("15 above the water", -19.0, x.bent(0, 0));
    }

    private static void turned() {
        BottomWalks x = new BottomWalks(1, 800);
        int[] none = {-1, 32, Integer.MIN_VALUE, Integer.MAX_VALUE};
        for (int ping : none) {
            Due.no("23 " + ping, x.turned(ping, 10.0));
        }
        Due.no("23 below", x.turned(0, -45.001));
        Due.no("23 above", x.turned(0, 45.001));
        for (double v : NO_NUMBERS) {
            Due.no("23 " + v, x.turned(0, v));
        }
        Due.number("23 refused changes nothing", 100.0, x.bent(0, 0));
        double angle = 0.017453292519943295 * 45.0;
        Due.yes("23 the most", x.turned(0, 45.0));
        Due.number("23 the most", 100.0 * (1.0 - angle * angle * 0.5), x.bent(0, 0));
        Due.no("23 refused later", x.turned(0, 46.0));
        Due.number("23 refused changes nothing", 100.0 * (1.0 - angle * angle * 0.5), x.bent(0, 0));
        Due.yes("23 upright again", x.turned(0, 0.0));
        Due.number("23 upright again", 100.0, x.bent(0, 0));
        double other = 0.017453292519943295 * -45.0;
        Due.yes("23 the least, of the last ping", x.turned(31, -45.0));
        Due.number("23 the least, of the last ping", 100.0 * (1.0 - other * other * 0.5), x.bent(31, 0));
    }

    private static void ballRanges() {
        BottomWalks x = new BottomWalks(1, 8);
        double[][] refused = {{-0.001, 1.0}, {100000.001, 1.0}, {5.0, 0.0999}, {5.0, 10.001}, {5.0, 0.0}};
        for (double[] row : refused) {
            Due.no("18 " + row[0] + ", " + row[1], x.ball(row[0], row[1]));
        }
        for (double v : NO_NUMBERS) {
            Due.no("18 day " + v, x.ball(v, 1.0));
            Due.no("18 ball " + v, x.ball(1.0, v));
        }
        Due.number("18 refused changes nothing", 1.0, x.factor(5.0));
        Due.yes("18 the last day", x.ball(100000.0, 10.0));
        Due.number("18 the last day", 10.0, x.factor(100000.0));
        Due.yes("18 the first day", x.ball(0.0, 0.1));
        Due.number("18 the first day", 0.1, x.factor(0.0));
        Due.yes("18 0 with its other sign is the same day", x.ball(-0.0, 0.5));
        Due.number("18 replaced", 0.5, x.factor(0.0));
        Due.no("18 refused later", x.ball(0.0, 11.0));
        Due.number("18 refused changes nothing", 0.5, x.factor(0.0));
    }

    private static void factor() {
        BottomWalks x = new BottomWalks(1, 8);
        Due.number("19 without rows", 1.0, x.factor(3.0));
        x.ball(30.0, 0.7);
        Due.number("19 one row, before", 0.7, x.factor(0.0));
        Due.number("19 one row, on it", 0.7, x.factor(30.0));
        Due.number("19 one row, behind", 0.7, x.factor(100000.0));
        x.ball(3.0, 0.3);
        x.ball(10.0, 9.1);
        Due.number("19 before", 0.3, x.factor(2.999));
        Due.number("19 first", 0.3, x.factor(3.0));
        Due.number("19 between", 0.3 + (9.1 - 0.3) * ((4.0 - 3.0) / (10.0 - 3.0)), x.factor(4.0));
        Due.number("19 between", 0.3 + (9.1 - 0.3) * ((9.9 - 3.0) / (10.0 - 3.0)), x.factor(9.9));
        Due.number("19 second", 9.1, x.factor(10.0));
        Due.number("19 second on", 9.1 + (0.7 - 9.1) * ((10.1 - 10.0) / (30.0 - 10.0)), x.factor(10.1));
        Due.number("19 second on", 9.1 + (0.7 - 9.1) * ((29.0 - 10.0) / (30.0 - 10.0)), x.factor(29.0));
        Due.number("19 last", 0.7, x.factor(30.0));
        Due.number("19 behind", 0.7, x.factor(30.001));
        Due.number("19 the last day of all", 0.7, x.factor(100000.0));
        Due.number("19 too late", 1.0, x.factor(100000.001));
        Due.number("19 the first day of all", 0.3, x.factor(0.0));
        Due.number("19 too early", 1.0, x.factor(-0.001));
        for (double v : NO_NUMBERS) {
            Due.number("19 " + v, 1.0, x.factor(v));
        }
        BottomWalks near = new BottomWalks(1, 8);
        near.ball(Double.MIN_VALUE, 3.0);
        near.ball(0.0, 2.0);
        Due.number("19 the least step, first", 2.0, near.factor(0.0));
        Due.number("19 the least step, second", 3.0, near.factor(Double.MIN_VALUE));
    }

    private static void aroundARow() {
        BottomWalks x = new BottomWalks(1, 8);
        x.ball(10.0, 1.0);
        x.ball(20.0, 5.0);
        x.ball(40.0, 0.5);
        Due.number("19 just before the first", 1.0, x.factor(Math.nextDown(10.0)));
        Due.number("19 on the first", 1.0, x.factor(10.0));
        double behindFirst = Math.nextUp(10.0);
        Due.number("19 just behind the first", 1.0 + (5.0 - 1.0) * ((behindFirst - 10.0) / (20.0 - 10.0)),
                x.factor(behindFirst));
        double beforeSecond = Math.nextDown(20.0);
        Due.number("19 just before the second", 1.0 + (5.0 - 1.0) * ((beforeSecond - 10.0) / (20.0 - 10.0)),
                x.factor(beforeSecond));
        Due.number("19 on the second", 5.0, x.factor(20.0));
        double behindSecond = Math.nextUp(20.0);
        Due.number("19 just behind the second", 5.0 + (0.5 - 5.0) * ((behindSecond - 20.0) / (40.0 - 20.0)),
                x.factor(behindSecond));
        Due.number("19 on the last", 0.5, x.factor(40.0));
        Due.number("19 just behind the last", 0.5, x.factor(Math.nextUp(40.0)));
        x.ball(40.0, 0.75);
        Due.number("19 the last replaced", 0.75, x.factor(40.0));
        Due.number("19 the way there too", 5.0 + (0.75 - 5.0) * ((30.0 - 20.0) / (40.0 - 20.0)), x.factor(30.0));
        x.ball(30.0, 9.0);
        Due.number("19 a row between", 9.0, x.factor(30.0));
    }

    private static void factorFromTheLeftToTheRight() {
        double[][] rows = {
            {3.0, 0.3, 10.0, 9.1}, {0.7, 9.9, 1.3, 0.1}, {0.0, 0.1, 100000.0, 10.0}, {5.5, 7.7, 99.9, 7.7}
        };
        for (double[] row : rows) {
            double d = row[0];
            double a = row[1];
            double e = row[2];
            double b = row[3];
            BottomWalks x = new BottomWalks(1, 8);
            x.ball(e, b);
            x.ball(d, a);
            for (int i = 1; i < 40; i++) {
                double day = d + (e - d) * i / 41.0;
                Due.number("19 day " + day, a + (b - a) * ((day - d) / (e - d)), x.factor(day));
            }
        }
    }

    private static void twentyBalls() {
        BottomWalks x = new BottomWalks(1, 8);
        for (int i = 0; i < 20; i++) {
            int day = (i * 7) % 20;
            Due.yes("18 day " + day, x.ball(day, 1.0 + day * 0.25));
        }
        Due.no("18 there are 20 others", x.ball(20.0, 1.0));
        Due.no("18 also between", x.ball(0.5, 1.0));
        for (int day = 0; day < 20; day++) {
            Due.number("18 refused changes nothing", 1.0 + day * 0.25, x.factor(day));
        }
        Due.number("19 halfway", 1.125, x.factor(0.5));
        Due.yes("18 one of the 20 is replaced", x.ball(19.0, 2.0));
        Due.number("18 replaced", 2.0, x.factor(77.0));
        Due.yes("14 speeds are rows of their own", x.speed(0.0, 1500.0));
    }

    /** From no row to twenty: the first one's before, the last one's behind, each on its own day. */
    private static void everyNumberOfBalls() {
        for (int rows = 0; rows <= 20; rows++) {
            BottomWalks x = new BottomWalks(1, 8);
            for (int i = rows; i >= 1; i--) {
                Due.yes("18 row " + i + " of " + rows, x.ball(i * 3.0, i * 0.4));
            }
            double last = rows * 0.4;
            Due.number("19 before, with " + rows, rows == 0 ? 1.0 : 0.4, x.factor(0.0));
            Due.number("19 behind, with " + rows, rows == 0 ? 1.0 : last, x.factor(100000.0));
            for (int i = 1; i <= rows; i++) {
                Due.number("19 row " + i + " of " + rows, i * 0.4, x.factor(i * 3.0));
            }
            if (rows < 20) {
                Due.yes("18 one more than " + rows, x.ball(99.0, 9.0));
            } else {
                Due.no("18 one more than 20", x.ball(99.0, 9.0));
                Due.no("18 one before all", x.ball(0.0, 9.0));
            }
            Due.number("19 with one more than " + rows, rows < 20 ? 9.0 : last, x.factor(99.0));
        }
    }
}
