import java.util.ArrayList;
import java.util.List;

/** What an object answers to every call that can tell one state from another, in some 300 calls. */
final class Answers {
    private final BottomWalks x;
    private final List<String> answers = new ArrayList<>();

    private Answers(BottomWalks x) {
        this.x = x;
    }

    static List<String> of(BottomWalks x) {
        Answers all = new Answers(x);
        all.askOfPings();
        all.askOfSamples();
        all.askOfPlacesAndDays();
        all.walkAgain();
        all.tellMore();
        return all.answers;
    }

    private void askOfPings() {
        add("greatest", x.greatest());
        for (int ping = 0; ping < 32; ping++) {
            add("bottom " + ping, x.bottom(ping));
            add("dead " + ping, x.dead(ping));
            add("kind " + ping, x.kind(ping));
            add("tail " + ping, x.tail(ping));
            add("surface " + ping, x.surface(ping));
            add("empty " + ping, x.empty(ping));
        }
        for (int k = 0; k < 10; k++) {
            add("bridged " + k, x.bridged(k));
        }
    }

    private void askOfSamples() {
        int[] pings = {0, 2, 6, 31};
        for (int ping : pings) {
            add("bent " + ping, x.bent(ping, Boats.SAMPLES - 1));
            for (int f = 0; f < 4; f++) {
                add("joined first " + f + " " + ping, x.joined(f, ping, 0));
                add("joined last " + f + " " + ping, x.joined(f, ping, Boats.SAMPLES - 1));
            }
        }
    }

    private void askOfPlacesAndDays() {
        double[] days = {0.0, 9.5, 100.0, 183.0, 100000.0};
        for (double day : days) {
            add("factor " + day, x.factor(day));
        }
        add("map", x.map(3.5, -2.0));
        add("map far away", x.map(-1000000.0, 1000000.0));
    }

    /** Changes the object: only so a sample told of value 0, an edit behind the run or a lost ping shows. */
    private void walkAgain() {
        for (int i = 1; i <= 4; i++) {
            int f = (3 + i) % 4;
            add("frequency " + f, x.frequency(f));
            add("empty 0 of " + f, x.empty(0));
            add("empty 31 of " + f, x.empty(31));
            add("run of " + f, x.run(32, 2));
            for (int ping = 0; ping < 32; ping += 6) {
                add("bottom " + ping + " of " + f, x.bottom(ping));
            }
            add("bottom 31 of " + f, x.bottom(31));
        }
    }

    private void tellMore() {
        add("one row more of speeds", x.speed(1.25, 1600.0));
        add("one row more of balls", x.ball(5.0, 7.0));
        add("bent with it", x.bent(30, Boats.SAMPLES - 1));
        add("factor with it", x.factor(4.0));
    }

    private void add(String call, Object answer) {
        answers.add(call + " = " + answer);
    }
}
