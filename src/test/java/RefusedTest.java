import java.util.ArrayList;
import java.util.List;

/**
 * "Such are refused. What is refused changes nothing": each call that is refused, on boats in three states, answers
 * as the document says, and every other call answers after it as before it.
 */
public final class RefusedTest {
    private static final int[] NO_PINGS = {-1, 32, Integer.MIN_VALUE, Integer.MAX_VALUE};
    private static final int[] NO_SAMPLES = {-1, Boats.SAMPLES, 64, Integer.MIN_VALUE, Integer.MAX_VALUE};
    private static final int[] NO_FREQUENCIES = {-1, 4, Integer.MIN_VALUE, Integer.MAX_VALUE};
    private static final List<List<String>> BEFORE = new ArrayList<>();

    private interface Call {
        double on(BottomWalks x);
    }

    private interface YesOrNo {
        boolean on(BottomWalks x);
    }

    public static void main(String[] args) {
        for (String name : Boats.NAMES) {
            BEFORE.add(Answers.of(Boats.make(name)));
        }
        statesDiffer();
        value();
        loss();
        noise();
        run();
        bottomAndWhatRestsOnIt();
        edit();
        lost();
        bridged();
        surface();
        speed();
        bent();
        frequency();
        joined();
        ball();
        factor();
        tide();
        map();
        turned();
        empty();
        several();
        noRunAsYet();
        fullTables();
        Due.end();
    }

    private static void refused(String call, double due, Call made) {
        for (int i = 0; i < Boats.NAMES.length; i++) {
            refusedBy(i, call, due, made);
        }
    }

    private static void refusedBy(int state, String call, double due, Call made) {
        BottomWalks x = Boats.make(Boats.NAMES[state]);
        String told = call + " of " + Boats.NAMES[state];
        Due.number(told, due, made.on(x));
        Due.same("after " + told, BEFORE.get(state), Answers.of(x));
    }

    private static void no(String call, YesOrNo made) {
        refused(call, 0.0, x -> made.on(x) ? 1.0 : 0.0);
    }

    /** The numbers next to both ends, on their outer sides, and what is not within any ends. */
    private static double[] outside(double least, double most) {
        return new double[] {
            Math.nextDown(least), Math.nextUp(most), Double.NaN, Double.POSITIVE_INFINITY, Double.NEGATIVE_INFINITY,
            Double.MAX_VALUE, -Double.MAX_VALUE
        };
    }

    /** Were they alike, a change from one to the other would not show. */
    private static void statesDiffer() {
        Due.no("new, told", BEFORE.get(0).equals(BEFORE.get(1)));
        Due.no("told, walked", BEFORE.get(1).equals(BEFORE.get(2)));
        for (int i = 0; i < Boats.NAMES.length; i++) {
            Due.same("asked of a boat made anew", BEFORE.get(i), Answers.of(Boats.make(Boats.NAMES[i])));
        }
    }

    private static void value() {
        for (int ping : NO_PINGS) {
            no("2 value of ping " + ping, x -> x.value(ping, 0, 5.0));
        }
        for (int k : NO_SAMPLES) {
            no("2 value of sample " + k, x -> x.value(0, k, 5.0));
            no("2 value of the last ping's sample " + k, x -> x.value(31, k, 5.0));
        }
        for (double v : outside(0.0, 1000.0)) {
            no("2 value " + v, x -> x.value(0, 1, v));
            no("2 value of the last sample " + v, x -> x.value(31, Boats.SAMPLES - 1, v));
        }
    }

    private static void loss() {
        for (double v : outside(0.0, 10.0)) {
            no("3 spread " + v, x -> x.loss(v, 1.0));
            no("3 absorb " + v, x -> x.loss(1.0, v));
            no("3 both " + v, x -> x.loss(v, v));
        }
    }

    private static void noise() {
        for (double v : outside(0.0, 1000.0)) {
            no("4 noise " + v, x -> x.noise(v));
        }
    }

    private static void run() {
        int[] noNumbersOfPings = {0, -1, 33, Integer.MIN_VALUE, Integer.MAX_VALUE};
        for (int pings : noNumbersOfPings) {
            refused("5 run over " + pings, -1.0, x -> x.run(pings, 0));
            refused("5 run over " + pings, -1.0, x -> x.run(pings, 64));
        }
        int[] noSteepness = {-1, 65, Integer.MIN_VALUE, Integer.MAX_VALUE};
        for (int steep : noSteepness) {
            refused("5 run with " + steep, -1.0, x -> x.run(1, steep));
            refused("5 run with " + steep, -1.0, x -> x.run(32, steep));
        }
        refusedBy(0, "5 run over no ping", -1.0, x -> x.run(1, 0));
        refusedBy(0, "5 run over no ping", -1.0, x -> x.run(32, 64));
        refusedBy(1, "5 run over ping 0, empty in frequency 1", -1.0, x -> x.run(1, 64));
        refusedBy(2, "5 run over pings 0 .. 2, empty in frequency 3", -1.0, x -> x.run(3, 64));
    }

    private static void bottomAndWhatRestsOnIt() {
        for (int ping : NO_PINGS) {
            refused("6 bottom of ping " + ping, -1.0, x -> x.bottom(ping));
            refused("11 dead of ping " + ping, -1.0, x -> x.dead(ping));
            refused("13 kind of ping " + ping, -1.0, x -> x.kind(ping));
            refused("21 tail of ping " + ping, -1.0, x -> x.tail(ping));
        }
        refusedBy(2, "6 bottom without one", -1.0, x -> x.bottom(31));
        refusedBy(2, "11 dead without one", -1.0, x -> x.dead(31));
        refusedBy(2, "13 kind of a ping that was not walked over", -1.0, x -> x.kind(31));
        refusedBy(2, "21 tail of a ping that was not walked over", -1.0, x -> x.tail(31));
    }

    private static void edit() {
        for (int ping : NO_PINGS) {
            no("8 edit of ping " + ping, x -> x.edit(ping, 1.0));
        }
        for (double v : outside(0.0, 10000.0)) {
            no("8 edit to " + v, x -> x.edit(3, v));
            no("8 edit of one that was edited to " + v, x -> x.edit(12, v));
        }
    }

    private static void lost() {
        for (int ping : NO_PINGS) {
            no("9 lost " + ping, x -> x.lost(ping));
        }
    }

    private static void bridged() {
        int[] none = {-1, 32, Integer.MIN_VALUE, Integer.MAX_VALUE};
        for (int k : none) {
            refused("10 bridged " + k, -1.0, x -> x.bridged(k));
        }
    }

    private static void surface() {
        for (int ping : NO_PINGS) {
            refused("12 surface of ping " + ping, -1.0, x -> x.surface(ping));
        }
    }

    private static void speed() {
        for (double depth : outside(0.0, 10000.0)) {
            no("14 speed from " + depth, x -> x.speed(depth, 1500.0));
        }
        for (double v : outside(1300.0, 1700.0)) {
            no("14 a new speed " + v, x -> x.speed(3.25, v));
            no("14 a speed in the place of another " + v, x -> x.speed(3.0, v));
        }
    }

    private static void bent() {
        for (int ping : NO_PINGS) {
            refused("15 bent of ping " + ping, -1.0, x -> x.bent(ping, 0));
        }
        for (int k : NO_SAMPLES) {
            refused("15 bent of sample " + k, -1.0, x -> x.bent(0, k));
            refused("15 bent of the last ping's sample " + k, -1.0, x -> x.bent(31, k));
        }
    }

    private static void frequency() {
        for (int f : NO_FREQUENCIES) {
            no("16 frequency " + f, x -> x.frequency(f));
        }
    }

    private static void joined() {
        for (int f : NO_FREQUENCIES) {
            refused("17 joined of frequency " + f, -1.0, x -> x.joined(f, 0, 0));
        }
        for (int ping : NO_PINGS) {
            refused("17 joined of ping " + ping, -1.0, x -> x.joined(1, ping, 0));
        }
        for (int k : NO_SAMPLES) {
            refused("17 joined of sample " + k, -1.0, x -> x.joined(1, 1, k));
            refused("17 joined of the last sample " + k, -1.0, x -> x.joined(3, 31, k));
        }
    }

    private static void ball() {
        for (double day : outside(0.0, 100000.0)) {
            no("18 ball of day " + day, x -> x.ball(day, 1.0));
        }
        for (double v : outside(0.1, 10.0)) {
            no("18 a new ball " + v, x -> x.ball(33.0, v));
            no("18 a ball in the place of another " + v, x -> x.ball(30.0, v));
        }
        no("18 a ball of 0.0", x -> x.ball(33.0, 0.0));
    }

    private static void factor() {
        for (double day : outside(0.0, 100000.0)) {
            refused("19 factor of day " + day, 1.0, x -> x.factor(day));
        }
    }

    private static void tide() {
        for (int ping : NO_PINGS) {
            no("20 tide of ping " + ping, x -> x.tide(ping, 1.0));
        }
        for (double v : outside(-20.0, 20.0)) {
            no("20 tide " + v, x -> x.tide(0, v));
            no("20 tide of the last ping " + v, x -> x.tide(31, v));
        }
    }

    private static void map() {
        for (double v : outside(-1000000.0, 1000000.0)) {
            refused("22 map x " + v, -1.0, x -> x.map(v, 0.0));
            refused("22 map y " + v, -1.0, x -> x.map(0.0, v));
            refused("22 map both " + v, -1.0, x -> x.map(v, v));
        }
    }

    private static void turned() {
        for (int ping : NO_PINGS) {
            no("23 turned of ping " + ping, x -> x.turned(ping, 1.0));
        }
        for (double degrees : outside(-45.0, 45.0)) {
            no("23 turned " + degrees, x -> x.turned(0, degrees));
            no("23 turned of the last ping " + degrees, x -> x.turned(31, degrees));
        }
    }

    private static void empty() {
        for (int ping : NO_PINGS) {
            refused("24 empty of ping " + ping, 1.0, x -> x.empty(ping) ? 1.0 : 0.0);
        }
    }

    /** Whichever check comes first, the answer is that of what is refused. */
    private static void several() {
        no("2 all wrong", x -> x.value(-1, -1, Double.NaN));
        no("2 ping and value wrong", x -> x.value(32, 0, 1000.5));
        no("2 sample and value wrong", x -> x.value(0, Boats.SAMPLES, -0.5));
        refused("5 both wrong", -1.0, x -> x.run(0, -1));
        refused("5 both too large", -1.0, x -> x.run(33, 65));
        no("8 both wrong", x -> x.edit(32, Double.NaN));
        no("14 both wrong", x -> x.speed(-1.0, 1299.0));
        refused("15 both wrong", -1.0, x -> x.bent(32, Boats.SAMPLES));
        refused("17 all wrong", -1.0, x -> x.joined(4, 32, Boats.SAMPLES));
        no("18 both wrong", x -> x.ball(-1.0, 0.0));
        no("20 both wrong", x -> x.tide(-1, 20.5));
        no("23 both wrong", x -> x.turned(-1, 45.5));
    }

    private static void noRunAsYet() {
        for (int state = 0; state < 2; state++) {
            refusedBy(state, "7 no run as yet", 0.0, x -> x.greatest() ? 1.0 : 0.0);
            refusedBy(state, "10 no run as yet", -1.0, x -> x.bridged(0));
            refusedBy(state, "22 no run as yet", -1.0, x -> x.map(12.0, 0.0));
            int[] pings = {0, 12, 31};
            for (int ping : pings) {
                refusedBy(state, "6 no run as yet " + ping, -1.0, x -> x.bottom(ping));
                refusedBy(state, "11 no run as yet " + ping, -1.0, x -> x.dead(ping));
                refusedBy(state, "13 no run as yet " + ping, -1.0, x -> x.kind(ping));
                refusedBy(state, "21 no run as yet " + ping, -1.0, x -> x.tail(ping));
            }
        }
    }

    private static void fullTables() {
        double[] places = {0.25, 3.25, 9999.0, Math.nextDown(10000.0), Double.MIN_VALUE};
        for (double place : places) {
            refusedBy(2, "14 a row more, from " + place, 0.0, x -> x.speed(place, 1500.0) ? 1.0 : 0.0);
            refusedBy(2, "18 a row more, of day " + place, 0.0, x -> x.ball(place, 1.0) ? 1.0 : 0.0);
        }
    }
}
