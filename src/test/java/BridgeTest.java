/** Promises 6, 10, 11 and 22 at their edges: which pings have a bottom, which of them are bridged, and how many. */
public final class BridgeTest {
    public static void main(String[] args) {
        everyGap();
        noneBridged();
        mostBridged();
        fromTheLeftToTheRight();
        nearestNeighbours();
        walkedIsNotBridged();
        lostAndEditedPings();
        everyRunAnew();
        deadFromEndToEnd();
        mapOfNoneOneAndAll();
        Due.end();
    }

    /** Two pings of the walk, any numbers apart: bridged when those are 2, 3 or 4. */
    private static void everyGap() {
        for (int first = 0; first < 31; first++) {
            for (int second = first + 1; second < 32; second++) {
                BottomWalks x = new BottomWalks(12, 8);
                x.value(first, 1, 5.0);
                x.value(second, 9, 5.0);
                Due.whole("walked", 10, x.run(32, 64));
                int gap = second - first;
                boolean near = gap <= 4;
                String pings = "pings " + first + " and " + second + ": ";
                Due.number(pings + "before the first", -1.0, x.bottom(first - 1));
                Due.number(pings + "the first", 2.0, x.bottom(first));
                Due.number(pings + "the second", 10.0, x.bottom(second));
                Due.number(pings + "behind the second", -1.0, x.bottom(second + 1));
                for (int i = 1; i < gap; i++) {
                    double between = near ? 2.0 + (10.0 - 2.0) * i / gap : -1.0;
                    Due.number(pings + i + " behind the first", between, x.bottom(first + i));
                    Due.number(pings + "dead", near ? 0.5 + 0.02 * between : -1.0, x.dead(first + i));
                    Due.whole(pings + "bridged " + (i - 1), near ? first + i : -1, x.bridged(i - 1));
                }
                Due.whole(pings + "no more bridged", -1, x.bridged(near ? gap - 1 : 0));
            }
        }
    }

    private static void noneBridged() {
        BottomWalks x = new BottomWalks(1, 8);
        Due.whole("no run", -1, x.bridged(0));
        x.value(0, 0, 5.0);
        x.run(32, 0);
        Due.whole("the first ping alone", -1, x.bridged(0));
        Due.number("the first ping alone", -1.0, x.bottom(1));
        for (int ping = 1; ping < 32; ping++) {
            x.value(ping, 0, 5.0);
        }
        x.run(32, 0);
        Due.whole("all pings", -1, x.bridged(0));
        Due.whole("all pings", -1, x.bridged(31));
        BottomWalks last = new BottomWalks(1, 8);
        last.edit(31, 5.0);
        last.run(32, 0);
        Due.whole("the last ping alone", -1, last.bridged(0));
        Due.number("the last ping alone", -1.0, last.bottom(30));
    }

    private static void mostBridged() {
        BottomWalks x = new BottomWalks(1, 8);
        int[] walked = {0, 4, 8, 12, 16, 20, 24, 28, 31};
        for (int ping : walked) {
            x.value(ping, 0, 5.0);
        }
        x.run(32, 0);
        int bridges = 0;
        for (int ping = 0; ping < 32; ping++) {
            Due.number("all have a bottom", 1.0, x.bottom(ping));
            if (ping % 4 != 0 && ping != 31) {
                Due.whole("bridged " + bridges, ping, x.bridged(bridges));
                bridges++;
            }
        }
        Due.whole("there are 23", 23, bridges);
        Due.whole("and no more", -1, x.bridged(23));
        Due.whole("none before them", -1, x.bridged(-1));
    }

    private static void fromTheLeftToTheRight() {
        double[][] depths = {{0.3, 8.1}, {8.1, 0.3}, {0.1, 0.7}, {9999.9, 0.7}, {3.3, 3.3}, {0.0, 10000.0}};
        for (double[] pair : depths) {
            double a = pair[0];
            double b = pair[1];
            for (int n = 2; n <= 4; n++) {
                BottomWalks x = new BottomWalks(1, 8);
                x.edit(7, a);
                x.edit(7 + n, b);
                x.run(32, 0);
                for (int i = 1; i < n; i++) {
                    Due.number(a + " to " + b + ", " + i + " of " + n, a + (b - a) * i / n, x.bottom(7 + i));
                }
            }
        }
    }

    private static void nearestNeighbours() {
        BottomWalks x = new BottomWalks(9, 8);
        x.value(0, 8, 5.0);
        x.value(3, 0, 5.0);
        x.value(7, 4, 5.0);
        x.value(9, 8, 5.0);
        x.run(32, 64);
        Due.number("behind ping 3, not behind ping 0", 1.0 + (5.0 - 1.0) * 1 / 4, x.bottom(4));
        Due.number("before ping 7, not before ping 9", 1.0 + (5.0 - 1.0) * 3 / 4, x.bottom(6));
        Due.number("between ping 7 and ping 9", 7.0, x.bottom(8));
        x.lost(7);
        x.run(32, 64);
        Due.number("ping 3 and ping 9 are too far away", -1.0, x.bottom(4));
        Due.number("also for ping 7 itself", -1.0, x.bottom(7));
        Due.number("also for ping 8", -1.0, x.bottom(8));
        Due.number("ping 0 and ping 3 are not", 9.0 + (1.0 - 9.0) * 2 / 3, x.bottom(2));
    }

    private static void walkedIsNotBridged() {
        BottomWalks x = new BottomWalks(9, 8);
        x.value(10, 0, 5.0);
        x.value(11, 8, 5.0);
        x.value(12, 0, 5.0);
        x.run(32, 64);
        Due.number("its own bottom", 9.0, x.bottom(11));
        Due.whole("none is bridged", -1, x.bridged(0));
        x.edit(11, 4.0);
        Due.number("its own bottom, edited", 4.0, x.bottom(11));
        Due.whole("still none", -1, x.bridged(0));
    }

    private static void lostAndEditedPings() {
        BottomWalks x = new BottomWalks(9, 8);
        x.value(10, 0, 5.0);
        x.value(11, 8, 5.0);
        x.value(12, 2, 5.0);
        x.lost(11);
        x.run(32, 64);
        Due.number("a lost ping is bridged", 2.0, x.bottom(11));
        Due.whole("a lost ping is bridged", 11, x.bridged(0));
        Due.number("it was not walked over", -1.0, x.tail(11));
        x.edit(11, 7.0);
        Due.number("edited after the run, it still is", 2.0, x.bottom(11));
        x.run(32, 64);
        Due.number("edited before the run, it is not", 7.0, x.bottom(11));
        Due.whole("edited before the run, it is not", -1, x.bridged(0));
    }

    /** Nothing of an earlier run is left: neither bottoms nor bridges nor tails. */
    private static void everyRunAnew() {
        BottomWalks x = new BottomWalks(4, 8);
        for (int ping = 0; ping < 32; ping += 3) {
            x.value(ping, 1, 5.0);
        }
        x.run(32, 64);
        Due.whole("twenty are bridged", 29, x.bridged(19));
        Due.whole("the first ping alone", 5, x.run(1, 64));
        for (int ping = 1; ping < 32; ping++) {
            Due.number("no bottom", -1.0, x.bottom(ping));
            Due.number("no tail", -1.0, x.tail(ping));
        }
        Due.whole("no bridge", -1, x.bridged(0));
        Due.number("one bottom", 2.0, x.bottom(0));
    }

    private static void deadFromEndToEnd() {
        double[] depths = {0.0, 0.1, 33.3, Math.nextDown(10000.0), 10000.0};
        int[] eighths = {1, 3, 800};
        for (double depth : depths) {
            for (int part : eighths) {
                BottomWalks x = new BottomWalks(1, part);
                x.edit(0, depth);
                Due.number("dead without a run", -1.0, x.dead(0));
                x.run(1, 0);
                x.tide(0, 20.0);
                double metre = part * 0.125;
                Due.number("dead above " + depth, 0.5 * metre + 0.02 * depth, x.dead(0));
                Due.number("dead of the ping behind it", -1.0, x.dead(1));
            }
        }
    }

    private static void mapOfNoneOneAndAll() {
        BottomWalks x = new BottomWalks(7, 3);
        for (int ping = 0; ping < 32; ping++) {
            x.value(ping, ping % 7, 5.0);
            x.tide(ping, ping * 0.3 - 4.7);
        }
        Due.number("none has a bottom", -1.0, x.map(3.3, 4.4));
        x.run(1, 64);
        Due.number("one has", 0.375 + (0 * 0.3 - 4.7), x.map(0.0, 0.0));
        x.run(32, 64);
        double[][] places = {{0.0, 0.0}, {31.0, 0.0}, {3.3, 4.4}, {15.5, -0.1}, {-7.7, 77.7}, {1000000.0, 0.3}};
        for (double[] place : places) {
            double sum = 0.0;
            double weights = 0.0;
            for (int ping = 0; ping < 32; ping++) {
                double w = 1.0 / (1.0 + (place[0] - ping) * (place[0] - ping) + place[1] * place[1]);
                sum = sum + w * ((ping % 7 + 1) * 0.375 + (ping * 0.3 - 4.7));
                weights = weights + w;
            }
            Due.number("all have, at " + place[0] + ", " + place[1], sum / weights, x.map(place[0], place[1]));
        }
    }
}
