/**
 * What of the latest run stays, and what is as it is now: pings lost, edited and told after it. And 0.0 with either
 * sign is the same depth, day or value.
 */
public final class NowTest {
    public static void main(String[] args) {
        everyPingLostAfterTheRun();
        lostBetweenLostNeighbours();
        lostAndThenEdited();
        toldAfterTheRun();
        runAgainWithTheLostPing();
        sameDepthInAFullTable();
        sameDayInAFullTable();
        zeroWithItsOtherSign();
        Due.end();
    }

    /** Eleven pings of the walk, every third one, at 2.0, 3.0, 4.0 and 2.0 again; a strength of 300 behind each. */
    private static BottomWalks walked() {
        BottomWalks x = new BottomWalks(6, 8);
        for (int ping = 0; ping < 32; ping += 3) {
            x.value(ping, sampleOf(ping), 900.0);
            x.value(ping, sampleOf(ping) + 1, 300.0);
        }
        Due.whole("run", 11 * 900, x.run(32, 64));
        return x;
    }

    private static int sampleOf(int ping) {
        return 1 + ping / 3 % 3;
    }

    private static void everyPingLostAfterTheRun() {
        for (int lost = 0; lost < 32; lost++) {
            BottomWalks x = walked();
            BottomWalks y = walked();
            Due.yes("lost " + lost, y.lost(lost));
            for (int ping = 0; ping < 32; ping++) {
                String call = "ping " + ping + " with " + lost + " lost: ";
                Due.number(call + "bottom of the row found", x.bottom(ping), y.bottom(ping));
                Due.number(call + "dead of the row found", x.dead(ping), y.dead(ping));
                Due.whole(call + "bridged of the row found", x.bridged(ping), y.bridged(ping));
                boolean walked = ping % 3 == 0;
                double tail = !walked ? -1.0 : ping == lost ? 0.0 : 300.0;
                Due.number(call + "tail of strengths as they are now", tail, y.tail(ping));
                Due.whole(call + "kind by that tail", !walked ? -1 : ping == lost ? 0 : 1, y.kind(ping));
            }
            Due.number("map of the row found", x.map(7.5, 2.0), y.map(7.5, 2.0));
            Due.yes("there was a run", y.greatest());
        }
    }

    private static void lostBetweenLostNeighbours() {
        BottomWalks x = walked();
        x.lost(3);
        x.lost(4);
        x.lost(6);
        Due.number("between lost ones of the walk", 3.0 + (4.0 - 3.0) * 1 / 3, x.bottom(4));
        Due.whole("it is bridged", 4, x.bridged(2));
        Due.number("it was not walked over", -1.0, x.tail(4));
    }

    private static void lostAndThenEdited() {
        BottomWalks x = walked();
        x.lost(3);
        x.edit(3, 1.0);
        Due.number("the depth told now", 1.0, x.bottom(3));
        Due.number("lost: nothing behind the one that counts", 0.0, x.tail(3));
        Due.number("the bridge from there", 1.0 + (4.0 - 1.0) * 2 / 3, x.bottom(5));
        BottomWalks y = walked();
        y.edit(4, 5.0);
        y.lost(4);
        Due.number("not of the walk: as others", 3.0 + (4.0 - 3.0) * 1 / 3, y.bottom(4));
        Due.number("not of the walk: no tail", -1.0, y.tail(4));
    }

    private static void toldAfterTheRun() {
        BottomWalks x = walked();
        x.value(3, 0, 1000.0);
        x.value(3, 5, 1000.0);
        x.value(4, 5, 1000.0);
        Due.number("the row's sample is that of the run", 3.0, x.bottom(3));
        Due.number("told behind it now", 1300.0, x.tail(3));
        Due.number("told where none was: still a bridge", 3.0 + (4.0 - 3.0) * 1 / 3, x.bottom(4));
        x.noise(600.0);
        Due.number("noise now", 400.0, x.tail(3));
        Due.number("the row is that of the run", 3.0, x.bottom(3));
    }

    private static void runAgainWithTheLostPing() {
        BottomWalks x = walked();
        x.lost(3);
        Due.whole("refused", -1, x.run(33, 64));
        Due.number("the run before stays", 3.0, x.bottom(3));
        Due.whole("a new run", 10 * 900, x.run(32, 64));
        Due.number("without it", -1.0, x.bottom(3));
        Due.number("nor a tail", -1.0, x.tail(3));
        x.edit(3, 6.0);
        Due.number("edited, but not of this walk", -1.0, x.bottom(3));
        Due.whole("a third run", 10 * 900, x.run(32, 64));
        Due.number("with it", 6.0, x.bottom(3));
        Due.number("and with nothing behind it", 0.0, x.tail(3));
    }

    private static void sameDepthInAFullTable() {
        double[] signs = {0.0, -0.0};
        for (double first : signs) {
            for (double second : signs) {
                BottomWalks x = new BottomWalks(1, 8);
                x.speed(first, 1400.0);
                for (int i = 1; i < 20; i++) {
                    x.speed(i, 1500.0);
                }
                Due.no("there are 20 others", x.speed(Double.MIN_VALUE, 1600.0));
                Due.yes(second + " is the depth of " + first, x.speed(second, 1700.0));
                Due.number("it is replaced", 0.0 + 1.0 * 1700.0 / 1500.0, x.bent(0, 0));
            }
        }
    }

    private static void sameDayInAFullTable() {
        double[] signs = {0.0, -0.0};
        for (double first : signs) {
            for (double second : signs) {
                BottomWalks x = new BottomWalks(1, 8);
                x.ball(first, 2.0);
                for (int i = 1; i < 20; i++) {
                    x.ball(i, 4.0);
                }
                Due.no("there are 20 others", x.ball(Double.MIN_VALUE, 3.0));
                Due.yes(second + " is the day of " + first, x.ball(second, 3.0));
                for (double day : signs) {
                    Due.number("it is replaced", 3.0, x.factor(day));
                }
                Due.number("also as the row before", 3.0 + (4.0 - 3.0) * ((0.25 - 0.0) / (1.0 - 0.0)), x.factor(0.25));
            }
        }
    }

    private static void zeroWithItsOtherSign() {
        BottomWalks x = new BottomWalks(2, 8);
        Due.yes("value", x.value(0, 1, -0.0));
        Due.yes("losses", x.loss(-0.0, -0.0));
        Due.yes("noise", x.noise(-0.0));
        Due.yes("edit", x.edit(1, -0.0));
        Due.yes("tide", x.tide(0, -0.0));
        Due.yes("degrees", x.turned(0, -0.0));
        Due.no("told", x.empty(0));
        Due.whole("both are walked over", 0, x.run(32, 0));
        Due.number("the least deep of equal rows", 1.0, x.bottom(0));
        Due.number("edited to 0.0", 0.0, x.bottom(1));
        Due.number("upright, no tide", 2.0, x.bent(0, 1));
        Due.number("map at 0.0", (1.0 + 0.5 * 0.0) / (1.0 + 0.5), x.map(-0.0, -0.0));
    }
}
