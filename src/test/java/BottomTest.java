/** Promises 6, 8, 10, 11, 13, 20, 21 and 22: what is asked of the row that the latest run found. */
public final class BottomTest {
    private static final int[] NO_PINGS = {-1, 32, -2, 33, 40, Integer.MIN_VALUE, Integer.MAX_VALUE};
    private static final double[] NO_NUMBERS = {
        Double.NaN, Double.POSITIVE_INFINITY, Double.NEGATIVE_INFINITY, Double.MAX_VALUE, -Double.MAX_VALUE
    };

    public static void main(String[] args) {
        bottom();
        rowStays();
        edit();
        editAfterTheRun();
        bridged();
        bridgesWithEdits();
        dead();
        tide();
        tail();
        tailOfEdited();
        kind();
        map();
        mapOfPingsAtMinusOne();
        Due.end();
    }

    private static BottomWalks twoPings() {
        BottomWalks x = new BottomWalks(10, 8);
        x.value(2, 3, 10.0);
        x.value(6, 5, 10.0);
        x.run(32, 64);
        return x;
    }

    private static void bottom() {
        BottomWalks x = new BottomWalks(10, 3);
        x.value(0, 9, 10.0);
        x.value(31, 0, 10.0);
        Due.number("6 no run as yet", -1.0, x.bottom(0));
        Due.whole("5", 20, x.run(32, 64));
        Due.number("6 the first ping", 3.75, x.bottom(0));
        Due.number("6 the last ping", 0.375, x.bottom(31));
        for (int ping = 1; ping < 31; ping++) {
            Due.number("6 none between, they are far away", -1.0, x.bottom(ping));
        }
        for (int ping : NO_PINGS) {
            Due.number("6 " + ping, -1.0, x.bottom(ping));
        }
    }

    private static void rowStays() {
        BottomWalks x = twoPings();
        x.value(2, 8, 1000.0);
        x.value(3, 8, 1000.0);
        x.noise(1000.0);
        x.frequency(2);
        x.lost(6);
        Due.number("6 the row stays as it was found", 4.0, x.bottom(2));
        Due.number("6 also of a lost ping", 6.0, x.bottom(6));
        Due.number("6 told later is not of the walk", 4.5, x.bottom(3));
        Due.yes("7 there was a run", x.greatest());
    }

    private static void edit() {
        BottomWalks x = new BottomWalks(4, 8);
        for (int ping : NO_PINGS) {
            Due.no("8 " + ping, x.edit(ping, 1.0));
        }
        Due.no("8 below 0", x.edit(0, -0.001));
        Due.no("8 above 10000", x.edit(0, 10000.001));
        for (double v : NO_NUMBERS) {
            Due.no("8 " + v, x.edit(0, v));
        }
        Due.whole("8 refused edits change nothing", -1, x.run(32, 64));
        Due.yes("8 the most", x.edit(0, 10000.0));
        Due.whole("8 edited, walked over", 0, x.run(32, 64));
        Due.number("8 the depth told", 10000.0, x.bottom(0));
        Due.no("8 refused later", x.edit(0, 10001.0));
        Due.no("8 refused later", x.edit(0, Double.NaN));
        Due.number("8 refused changes nothing", 10000.0, x.bottom(0));
        Due.yes("8 the least", x.edit(0, 0.0));
        Due.number("8 the least", 0.0, x.bottom(0));
        Due.yes("8 0 with its other sign", x.edit(0, -0.0));
        Due.number("8 0 with its other sign", 0.0, x.bottom(0));
        Due.yes("8 the last ping", x.edit(31, 1.25));
        Due.number("8 not walked over as yet", -1.0, x.bottom(31));
        Due.whole("8 both", 0, x.run(32, 64));
        Due.number("8 no sample's range", 1.25, x.bottom(31));
        x.frequency(3);
        Due.whole("8 edited in every frequency", 0, x.run(32, 64));
        Due.number("8 hand edits stay", 1.25, x.bottom(31));
    }

    private static void editAfterTheRun() {
        BottomWalks x = twoPings();
        x.edit(6, 7.75);
        Due.number("8 a ping of the walk has the depth told now", 7.75, x.bottom(6));
        x.edit(6, 2.0);
        Due.number("8 told again", 2.0, x.bottom(6));
        x.edit(4, 9.0);
        Due.number("8 one that was not of the walk is as others", 3.0, x.bottom(4));
        x.edit(20, 9.0);
        Due.number("8 not of the walk, without neighbours", -1.0, x.bottom(20));
        Due.whole("8 as a bridge, too", 4, x.bridged(1));
    }

    private static void bridged() {
        BottomWalks x = twoPings();
        Due.number("6 bridged", 4.5, x.bottom(3));
        Due.number("6 bridged", 5.0, x.bottom(4));
        Due.number("6 bridged", 5.5, x.bottom(5));
        Due.number("6 before the first", -1.0, x.bottom(1));
        Due.number("6 behind the last", -1.0, x.bottom(7));
        Due.whole("10 first", 3, x.bridged(0));
        Due.whole("10 second", 4, x.bridged(1));
        Due.whole("10 third", 5, x.bridged(2));
        Due.whole("10 no more", -1, x.bridged(3));
        Due.whole("10 below 0", -1, x.bridged(-1));
        Due.whole("10 least", -1, x.bridged(Integer.MIN_VALUE));
        Due.whole("10 most", -1, x.bridged(Integer.MAX_VALUE));
        x.value(11, 0, 10.0);
        x.value(13, 9, 10.0);
        x.value(14, 9, 10.0);
        x.value(17, 0, 10.0);
        Due.whole("5", 60, x.run(32, 64));
        Due.number("6 five numbers are too many", -1.0, x.bottom(7));
        Due.number("6 five numbers are too many", -1.0, x.bottom(10));
        Due.number("6 two numbers", 5.5, x.bottom(12));
        Due.number("6 three numbers", 10.0 + (1.0 - 10.0) * 1 / 3, x.bottom(15));
        Due.number("6 three numbers", 10.0 + (1.0 - 10.0) * 2 / 3, x.bottom(16));
        int[] due = {3, 4, 5, 12, 15, 16, -1};
        for (int k = 0; k < due.length; k++) {
            Due.whole("10 bridged(" + k + ")", due[k], x.bridged(k));
        }
        x.lost(4);
        Due.number("6 a lost ping is bridged", 5.0, x.bottom(4));
        x.lost(13);
        Due.whole("5", 50, x.run(32, 64));
        Due.number("6 lost between near neighbours", 1.0 + (10.0 - 1.0) * 2 / 3, x.bottom(13));
        Due.whole("10 lost between near neighbours", 13, x.bridged(4));
    }

    private static void bridgesWithEdits() {
        BottomWalks x = twoPings();
        x.edit(2, 0.0);
        Due.number("6 from the depth told now", 0.0 + (6.0 - 0.0) * 1 / 4, x.bottom(3));
        x.edit(6, 100.0);
        Due.number("6 to the depth told now", 75.0, x.bottom(5));
        x.tide(2, 5.0);
        x.tide(6, 5.0);
        Due.number("6 its neighbours' tides are not its own", 75.0, x.bottom(5));
        x.tide(5, -0.5);
        Due.number("6 its own is", 74.5, x.bottom(5));
        BottomWalks y = new BottomWalks(1, 8);
        y.edit(4, 0.3);
        y.edit(7, 8.1);
        y.run(32, 0);
        Due.number("6 times, then divided", 0.3 + (8.1 - 0.3) * 1 / 3, y.bottom(5));
        Due.number("6 times, then divided", 0.3 + (8.1 - 0.3) * 2 / 3, y.bottom(6));
    }

    private static void dead() {
        BottomWalks x = new BottomWalks(10, 8);
        x.value(2, 3, 10.0);
        Due.number("11 no run as yet", -1.0, x.dead(2));
        x.value(6, 5, 10.0);
        x.run(32, 64);
        Due.number("11 of the row", 0.5 * 1.0 + 0.02 * 4.0, x.dead(2));
        Due.number("11 of a bridge", 0.5 * 1.0 + 0.02 * 5.5, x.dead(5));
        Due.number("11 without one", -1.0, x.dead(7));
        for (int ping : NO_PINGS) {
            Due.number("11 " + ping, -1.0, x.dead(ping));
        }
        x.tide(2, 20.0);
        Due.number("11 without tide", 0.5 * 1.0 + 0.02 * 4.0, x.dead(2));
        x.edit(2, 7.25);
        Due.number("11 the depth told", 0.5 * 1.0 + 0.02 * 7.25, x.dead(2));
        BottomWalks y = new BottomWalks(1, 800);
        y.edit(31, 0.0);
        y.run(32, 0);
        Due.number("11 at 0", 50.0, y.dead(31));
    }

    private static void tide() {
        BottomWalks x = twoPings();
        for (int ping : NO_PINGS) {
            Due.no("20 " + ping, x.tide(ping, 1.0));
        }
        Due.no("20 below", x.tide(2, -20.001));
        Due.no("20 above", x.tide(2, 20.001));
        for (double v : NO_NUMBERS) {
            Due.no("20 " + v, x.tide(2, v));
        }
        Due.number("20 refused changes nothing", 4.0, x.bottom(2));
        Due.yes("20 the most", x.tide(2, 20.0));
        Due.number("20 the most", 24.0, x.bottom(2));
        Due.yes("20 the least", x.tide(2, -20.0));
        Due.number("20 the least", -16.0, x.bottom(2));
        Due.no("20 refused later", x.tide(2, 21.0));
        Due.number("20 refused changes nothing", -16.0, x.bottom(2));
        Due.yes("20 as it was", x.tide(2, 0.0));
        Due.number("20 as it was", 4.0, x.bottom(2));
        Due.yes("20 without a bottom", x.tide(31, 3.0));
        Due.number("20 without a bottom", -1.0, x.bottom(31));
        Due.number("20 in bent", 4.0, x.bent(31, 0));
        Due.yes("20 the first ping", x.tide(0, 2.5));
        Due.number("20 the first ping", 3.5, x.bent(0, 0));
    }

    private static void tail() {
        BottomWalks x = new BottomWalks(12, 8);
        Due.number("21 no run as yet", -1.0, x.tail(0));
        x.value(0, 1, 1000.0);
        for (int k = 2; k < 12; k++) {
            x.value(0, k, 1 << (k - 2));
        }
        x.run(32, 64);
        Due.number("21 eight samples", 255.0, x.tail(0));
        Due.number("21 not walked over", -1.0, x.tail(1));
        for (int ping : NO_PINGS) {
            Due.number("21 " + ping, -1.0, x.tail(ping));
        }
        x.value(0, 2, 3.75);
        Due.number("21 strengths as they are now, each cut", 257.0, x.tail(0));
        x.frequency(1);
        x.value(0, 2, 500.0);
        Due.number("21 in the frequency of the run", 257.0, x.tail(0));
        x.value(5, 8, 1.0);
        x.run(32, 64);
        Due.number("21 in the one of the new run", 0.0, x.tail(0));
        x.value(0, 10, 70.0);
        Due.number("21 told later", 70.0, x.tail(0));
        x.value(0, 11, 8.0);
        Due.number("21 not the ninth", 70.0, x.tail(0));
        x.value(5, 9, 1.5);
        x.value(5, 11, 2.5);
        Due.number("21 fewer than eight", 3.0, x.tail(5));
        x.lost(5);
        Due.number("21 a lost one is still walked over", 0.0, x.tail(5));
        x.frequency(0);
        x.value(7, 11, 9.0);
        x.value(3, 11, 9.0);
        x.run(32, 64);
        Due.number("21 nothing behind the last sample", 0.0, x.tail(7));
        Due.number("21 a bridged ping was not walked over", -1.0, x.tail(5));
        Due.number("6 though it has a bottom", 12.0, x.bottom(5));
    }

    private static void tailOfEdited() {
        BottomWalks x = new BottomWalks(5, 8);
        for (int k = 0; k < 5; k++) {
            x.value(1, k, 1 << k);
        }
        x.run(2, 0);
        Due.number("21 of the row", 0.0, x.tail(1));
        x.edit(1, 2.0);
        Due.number("21 behind the sample that counts now", 28.0, x.tail(1));
        x.edit(1, 2.5);
        Due.number("21 told again", 24.0, x.tail(1));
        x.edit(1, 0.0);
        Due.number("21 at 0", 30.0, x.tail(1));
        x.edit(1, 77.0);
        Due.number("21 too deep", 0.0, x.tail(1));
        x.edit(0, 1.0);
        Due.number("21 edited, not of the walk", -1.0, x.tail(0));
    }

    private static void kind() {
        BottomWalks x = new BottomWalks(9, 8);
        Due.whole("13 no run as yet", -1, x.kind(3));
        x.value(3, 0, 1000.0);
        x.run(32, 0);
        Due.whole("13 nothing behind", 0, x.kind(3));
        x.value(3, 1, 199.99);
        Due.whole("13 199", 0, x.kind(3));
        x.value(3, 1, 200.0);
        Due.whole("13 200", 1, x.kind(3));
        x.value(3, 2, 900.0);
        x.value(3, 8, 899.0);
        Due.whole("13 1999", 1, x.kind(3));
        x.value(3, 8, 900.0);
        Due.whole("13 2000", 2, x.kind(3));
        x.value(3, 5, 900.0);
        Due.whole("13 2900", 2, x.kind(3));
        Due.whole("13 not walked over", -1, x.kind(2));
        for (int ping : NO_PINGS) {
            Due.whole("13 " + ping, -1, x.kind(ping));
        }
        x.value(5, 0, 1.0);
        x.run(32, 0);
        Due.whole("13 bridged", -1, x.kind(4));
    }

    private static void map() {
        BottomWalks x = twoPings();
        x.tide(3, 0.25);
        double[][] places = {{0.0, 0.0}, {2.0, 0.0}, {4.5, -3.25}, {-1000000.0, 1000000.0}, {1000000.0, -1000000.0}};
        double[] bottoms = {4.0, 4.75, 5.0, 5.5, 6.0};
        for (double[] place : places) {
            double sum = 0.0;
            double weights = 0.0;
            for (int ping = 2; ping <= 6; ping++) {
                double w = 1.0 / (1.0 + (place[0] - ping) * (place[0] - ping) + place[1] * place[1]);
                sum = sum + w * bottoms[ping - 2];
                weights = weights + w;
            }
            Due.number("22 " + place[0] + ", " + place[1], sum / weights, x.map(place[0], place[1]));
        }
        Due.number("22 x above", -1.0, x.map(1000000.001, 0.0));
        Due.number("22 x below", -1.0, x.map(-1000000.001, 0.0));
        Due.number("22 y above", -1.0, x.map(0.0, 1000000.001));
        Due.number("22 y below", -1.0, x.map(0.0, -1000000.001));
        for (double v : NO_NUMBERS) {
            Due.number("22 x " + v, -1.0, x.map(v, 0.0));
            Due.number("22 y " + v, -1.0, x.map(0.0, v));
        }
        BottomWalks none = new BottomWalks(1, 1);
        none.edit(0, 5.0);
        none.value(1, 0, 5.0);
        Due.number("22 no run as yet", -1.0, none.map(0.0, 0.0));
        none.run(1, 0);
        Due.number("22 of one ping alone", 5.0, none.map(0.0, 0.0));
    }

    private static void mapOfPingsAtMinusOne() {
        BottomWalks x = new BottomWalks(1, 8);
        x.value(0, 0, 1.0);
        x.value(1, 0, 1.0);
        x.run(32, 0);
        x.tide(0, -2.0);
        Due.number("6 a bottom at -1.0", -1.0, x.bottom(0));
        Due.number("22 a bottom at -1.0 is one", (1.0 * -1.0 + 0.5 * 1.0) / (1.0 + 0.5), x.map(0.0, 0.0));
        Due.number("11 it has a dead zone", 0.5 * 1.0 + 0.02 * 1.0, x.dead(0));
    }
}
