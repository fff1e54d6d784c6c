/** Promises 5 and 7: the row of the greatest sum, on rows made by hand and against all rows tried one by one. */
public final class RunTest {
    private static long seed = 20261118L;

    public static void main(String[] args) {
        ranges();
        refusedRunsChangeNothing();
        noPingForTheWalk();
        onePing();
        allPings();
        greatest();
        pingsOfTheWalk();
        steepness();
        equalRows();
        equalRowsOfThreePings();
        equalRowsBesideEditedAndLostPings();
        editedPings();
        greatSums();
        againstAllRows();
        Due.end();
    }

    private static void ranges() {
        BottomWalks x = new BottomWalks(3, 8);
        x.value(0, 1, 5.0);
        int[][] refused = {
            {0, 0}, {-1, 0}, {33, 0}, {Integer.MAX_VALUE, 0}, {Integer.MIN_VALUE, 0}, {1, -1}, {1, 65},
            {1, Integer.MAX_VALUE}, {1, Integer.MIN_VALUE}
        };
        for (int[] call : refused) {
            Due.whole("5 run(" + call[0] + ", " + call[1] + ")", -1, x.run(call[0], call[1]));
            Due.no("7 no run as yet", x.greatest());
            Due.number("6 no run as yet", -1.0, x.bottom(0));
        }
        Due.whole("5 least of both", 5, x.run(1, 0));
        Due.yes("7 a run", x.greatest());
        Due.whole("5 most of both", 5, x.run(32, 64));
        Due.yes("7 a second run", x.greatest());
    }

    private static void refusedRunsChangeNothing() {
        BottomWalks x = new BottomWalks(9, 8);
        x.value(0, 2, 50.0);
        x.value(1, 8, 40.0);
        Due.whole("5 steep 0", 50, x.run(2, 0));
        Due.number("5 steep 0, bottom", 3.0, x.bottom(1));
        x.run(2, 65);
        x.run(33, 64);
        x.frequency(1);
        x.value(2, 1, 60.0);
        Due.whole("5 no ping for the walk", -1, x.run(2, 64));
        Due.number("5 the run before stays", 3.0, x.bottom(0));
        Due.number("5 the run before stays", 3.0, x.bottom(1));
        Due.number("5 its frequency too", 40.0, x.tail(1));
        Due.yes("7 it stays", x.greatest());
        Due.whole("5 a new run", 60, x.run(3, 64));
        Due.number("5 the run before is gone", -1.0, x.bottom(0));
        Due.number("5 the new one counts", 2.0, x.bottom(2));
    }

    /** Each in its own way without a ping for the walk; the run before, over ping 0 of frequency 1, stays. */
    private static void noPingForTheWalk() {
        for (int way = 0; way < 6; way++) {
            BottomWalks x = withoutPings(way);
            Due.whole("5 no ping for the walk, " + way, -1, x.run(20, 64));
            Due.yes("7 the run before stays", x.greatest());
            Due.same("5 the run before stays, " + way, Answers.of(withoutPings(way)), Answers.of(x));
            BottomWalks never = new BottomWalks(Boats.SAMPLES, 8);
            never.value(20, 0, 5.0);
            Due.whole("5 no ping for the walk, without a run before", -1, never.run(20, 64));
            Due.no("7 still no run", never.greatest());
            Due.number("6 still no run", -1.0, never.bottom(20));
            Due.whole("5 with the next ping there is one", 5, never.run(21, 64));
            Due.yes("7 a run", never.greatest());
        }
    }

    private static BottomWalks withoutPings(int way) {
        BottomWalks x = new BottomWalks(Boats.SAMPLES, 8);
        x.frequency(1);
        x.value(0, 2, 50.0);
        x.value(0, 4, 20.0);
        x.run(1, 3);
        switch (way) {
            case 0: x.frequency(2); break;
            case 1: x.lost(0); break;
            case 2: x.lost(0); x.value(0, 1, 60.0); break;
            case 3: x.frequency(2); x.value(20, 1, 60.0); break;
            case 4: x.frequency(2); x.edit(20, 1.0); x.edit(31, 1.0); break;
            default: x.frequency(2); x.value(3, 0, 9.0); x.lost(3); break;
        }
        return x;
    }

    private static void onePing() {
        int[] pings = {0, 1, 30, 31};
        for (int ping : pings) {
            for (int k = 0; k < 64; k++) {
                BottomWalks x = new BottomWalks(64, 8);
                x.value(ping, k, 8.0);
                x.value(ping, 63 - k, 7.0);
                Due.whole("5 one ping, sample " + k, 8, x.run(ping + 1, 0));
                Due.number("6 one ping, sample " + k, k + 1, x.bottom(ping));
                Due.whole("5 the pings before it are none for the walk", -1, x.run(ping, 0));
            }
        }
        BottomWalks equal = new BottomWalks(64, 8);
        equal.value(0, 63, 5.0);
        Due.whole("5 the last sample", 5, equal.run(1, 0));
        Due.number("6 the last sample", 64.0, equal.bottom(0));
        equal.value(0, 62, 5.0);
        equal.run(1, 0);
        Due.number("5 the one before it is as good", 63.0, equal.bottom(0));
        equal.value(0, 0, 5.0);
        equal.run(1, 64);
        Due.number("5 so is the first", 1.0, equal.bottom(0));
        equal.value(0, 62, 5.9);
        equal.run(1, 64);
        Due.number("5 what is cut off does not count", 1.0, equal.bottom(0));
        equal.value(0, 62, 6.0);
        equal.run(1, 64);
        Due.number("5 a whole one does", 63.0, equal.bottom(0));
    }

    private static void allPings() {
        BottomWalks x = new BottomWalks(4, 8);
        for (int ping = 0; ping < 32; ping++) {
            x.value(ping, ping % 4, 1.0 + ping);
        }
        Due.whole("5 all pings", 32 * 33 / 2, x.run(32, 3));
        for (int ping = 0; ping < 32; ping++) {
            Due.number("6 all pings", ping % 4 + 1, x.bottom(ping));
        }
        Due.whole("5 all but the last", 32 * 33 / 2 - 32, x.run(31, 3));
        Due.number("6 all but the last", -1.0, x.bottom(31));
        Due.whole("5 level, along the last samples", 4 + 8 + 12 + 16 + 20 + 24 + 28 + 32, x.run(32, 0));
        for (int ping = 0; ping < 32; ping++) {
            x.lost(ping);
        }
        Due.whole("5 all lost", -1, x.run(32, 3));
        Due.number("6 the run before stays", 4.0, x.bottom(31));
        for (int ping = 0; ping < 32; ping++) {
            x.edit(ping, ping * 7.0);
        }
        Due.whole("5 all lost, all edited", 0, x.run(32, 0));
        Due.number("6 all lost, all edited", 217.0, x.bottom(31));
    }

    private static void greatest() {
        BottomWalks x = new BottomWalks(2, 8);
        Due.no("7 a new object", x.greatest());
        x.value(0, 0, 0.0);
        Due.no("7 told, no run", x.greatest());
        x.edit(1, 1.0);
        Due.no("7 edited, no run", x.greatest());
        x.run(0, 0);
        x.run(33, 0);
        x.run(1, 65);
        x.run(1, -1);
        Due.no("7 refused runs", x.greatest());
        Due.whole("5 a sum of 0 is a sum", 0, x.run(1, 0));
        Due.yes("7 a run", x.greatest());
        x.value(0, 1, 9.0);
        Due.yes("7 greater strengths now: none had a greater sum then", x.greatest());
        x.frequency(3);
        x.lost(0);
        x.run(1, 0);
        Due.yes("7 it stays", x.greatest());
    }

    private static void pingsOfTheWalk() {
        BottomWalks x = new BottomWalks(4, 8);
        x.value(0, 0, 1.0);
        x.value(3, 1, 2.0);
        x.value(31, 2, 4.0);
        Due.whole("5 one ping", 1, x.run(1, 64));
        Due.whole("5 pings 0 .. 2", 1, x.run(3, 64));
        Due.number("5 ping 3 is not in it", -1.0, x.bottom(3));
        Due.whole("5 pings 0 .. 3", 3, x.run(4, 64));
        Due.number("5 ping 3 is in it", 2.0, x.bottom(3));
        Due.whole("5 all but the last", 3, x.run(31, 64));
        Due.whole("5 all", 7, x.run(32, 64));
        x.lost(3);
        Due.whole("5 without the lost one", 5, x.run(32, 64));
        x.frequency(3);
        x.value(3, 1, 9.0);
        Due.whole("5 lost in every frequency", -1, x.run(32, 64));
        x.edit(3, 2.0);
        Due.whole("5 lost, but edited", 0, x.run(32, 64));
        x.edit(30, 2.0);
        Due.whole("5 never told, but edited", 0, x.run(32, 64));
        Due.number("5 never told, but edited", 2.0, x.bottom(30));
        Due.whole("5 an edited ping behind the pings", 0, x.run(30, 64));
        Due.number("5 an edited ping behind the pings", -1.0, x.bottom(30));
    }

    private static void steepness() {
        BottomWalks x = new BottomWalks(8, 8);
        x.value(0, 1, 10.0);
        x.value(4, 4, 10.0);
        x.value(9, 2, 10.0);
        Due.whole("5 the next one of the walk may be far away", 20, x.run(32, 2));
        Due.whole("5 just steep enough", 30, x.run(32, 3));
        Due.whole("5 not steep at all", 10, x.run(32, 0));
        x.lost(4);
        Due.whole("5 a lost ping does not hold the row", 20, x.run(32, 1));
        BottomWalks wide = new BottomWalks(64, 8);
        wide.value(0, 0, 3.0);
        wide.value(1, 63, 4.0);
        Due.whole("5 62 is too little", 4, wide.run(2, 62));
        Due.whole("5 63 is enough", 7, wide.run(2, 63));
        Due.whole("5 so is 64", 7, wide.run(2, 64));
    }

    private static void equalRows() {
        BottomWalks x = new BottomWalks(6, 8);
        x.value(0, 1, 5.0);
        x.value(0, 4, 5.0);
        x.value(1, 1, 5.0);
        x.value(1, 4, 5.0);
        Due.whole("5 equal rows", 10, x.run(2, 3));
        Due.number("5 less deep at the last ping", 2.0, x.bottom(1));
        Due.number("5 less deep before it", 2.0, x.bottom(0));
        x.value(1, 5, 6.0);
        Due.whole("5 the greater sum", 11, x.run(2, 1));
        Due.number("5 goes before less deep", 6.0, x.bottom(1));
        BottomWalks y = new BottomWalks(6, 8);
        y.value(0, 0, 5.0);
        y.value(0, 3, 5.0);
        y.value(1, 2, 5.0);
        y.value(1, 4, 5.0);
        Due.whole("5 crossing rows", 10, y.run(2, 1));
        Due.number("5 the last ping decides", 3.0, y.bottom(1));
        Due.number("5 and not the first one", 4.0, y.bottom(0));
        Due.whole("5 with steepness for both", 10, y.run(2, 2));
        Due.number("5 the last ping", 3.0, y.bottom(1));
        Due.number("5 the first ping", 1.0, y.bottom(0));
        BottomWalks nothing = new BottomWalks(6, 8);
        nothing.value(0, 5, 0.0);
        nothing.value(1, 4, 0.0);
        Due.whole("5 a sum of 0", 0, nothing.run(2, 1));
        Due.number("5 all rows are equal", 1.0, nothing.bottom(0));
        Due.number("5 all rows are equal", 1.0, nothing.bottom(1));
    }

    private static void equalRowsOfThreePings() {
        BottomWalks x = new BottomWalks(5, 8);
        for (int ping = 0; ping < 3; ping++) {
            for (int k = 0; k < 5; k++) {
                x.value(ping, k, 6.0);
            }
        }
        Due.whole("5 all rows are equal", 18, x.run(3, 1));
        for (int ping = 0; ping < 3; ping++) {
            Due.number("5 the first samples", 1.0, x.bottom(ping));
        }
        x.value(2, 3, 7.0);
        Due.whole("5 one is greater at the last ping", 19, x.run(3, 1));
        Due.number("5 it is taken", 4.0, x.bottom(2));
        Due.number("5 from the least deep one that leads there", 3.0, x.bottom(1));
        Due.number("5 and from the least deep one before", 2.0, x.bottom(0));
        x.value(0, 4, 7.0);
        Due.whole("5 one is greater at the first ping", 20, x.run(3, 1));
        Due.number("5 it is taken", 5.0, x.bottom(0));
        Due.number("5 the less deep one between", 4.0, x.bottom(1));
        Due.number("5 and the last as before", 4.0, x.bottom(2));
        Due.whole("5 level: the one or the other", 19, x.run(3, 0));
        Due.number("5 the less deep one", 4.0, x.bottom(0));
        BottomWalks y = new BottomWalks(5, 8);
        y.value(0, 0, 6.0);
        y.value(0, 4, 6.0);
        y.value(1, 1, 6.0);
        y.value(1, 3, 6.0);
        y.value(2, 2, 6.0);
        Due.whole("5 two rows meet at the last ping", 18, y.run(3, 1));
        Due.number("5 less deep at the last at which they differ", 2.0, y.bottom(1));
        Due.number("5 and so before it", 1.0, y.bottom(0));
        y.value(1, 1, 5.0);
        y.value(0, 0, 7.0);
        Due.whole("5 as great by the less deep one", 18, y.run(3, 1));
        Due.number("5 the less deep one", 2.0, y.bottom(1));
        y.value(0, 0, 6.0);
        Due.whole("5 greater by the deeper one", 18, y.run(3, 1));
        Due.number("5 the deeper one", 4.0, y.bottom(1));
        Due.number("5 the deeper one", 5.0, y.bottom(0));
    }

    private static void equalRowsBesideEditedAndLostPings() {
        BottomWalks x = new BottomWalks(5, 8);
        for (int ping = 0; ping < 3; ping++) {
            x.value(ping, 1, 6.0);
            x.value(ping, 3, 6.0);
        }
        x.edit(1, 4.0);
        Due.whole("5 beside an edited ping", 18, x.run(3, 0));
        Due.number("5 less deep before it", 2.0, x.bottom(0));
        Due.number("5 less deep behind it", 2.0, x.bottom(2));
        Due.number("5 itself as told", 4.0, x.bottom(1));
        BottomWalks y = new BottomWalks(5, 8);
        y.value(0, 1, 6.0);
        y.value(0, 3, 6.0);
        y.value(1, 1, 9.0);
        y.value(2, 1, 6.0);
        y.value(2, 3, 6.0);
        Due.whole("5 level, with the ping between", 21, y.run(3, 0));
        y.value(1, 3, 9.0);
        y.lost(1);
        Due.whole("5 level, without the ping between", 12, y.run(3, 0));
        Due.number("5 less deep", 2.0, y.bottom(0));
        Due.number("5 less deep", 2.0, y.bottom(2));
        BottomWalks edited = new BottomWalks(3, 8);
        edited.edit(0, 3.0);
        edited.value(1, 2, 0.0);
        Due.whole("5 a sum of 0 behind an edited ping", 0, edited.run(2, 0));
        Due.number("5 the first sample", 1.0, edited.bottom(1));
    }

    private static void editedPings() {
        BottomWalks x = new BottomWalks(8, 4);
        for (int ping = 0; ping < 3; ping++) {
            x.value(ping, 1, 10.0);
            x.value(ping, 7, 30.0);
        }
        x.value(1, 4, 2.0);
        Due.whole("5 unedited", 90, x.run(3, 0));
        x.edit(1, 2.5);
        Due.whole("5 the sample whose range is the depth", 62, x.run(3, 0));
        x.edit(1, 2.5001);
        Due.whole("5 the first one whose range is not below it", 60, x.run(3, 0));
        x.edit(1, 0.0);
        Due.whole("5 the first one of all", 60, x.run(3, 0));
        x.edit(1, 0.75);
        Due.whole("5 between the first two", 70, x.run(3, 0));
        x.edit(1, 10000.0);
        Due.whole("5 the last one when none is deep enough", 90, x.run(3, 0));
        x.value(0, 1, 40.0);
        Due.whole("5 on both sides of an edited ping the row is free", 100, x.run(3, 0));
        Due.number("5 first side", 1.0, x.bottom(0));
        Due.number("5 second side", 4.0, x.bottom(2));
        x.lost(1);
        Due.whole("5 an edited ping that is lost has no strength", 70, x.run(3, 0));
        Due.number("5 but is walked over", 10000.0, x.bottom(1));
    }

    private static void greatSums() {
        BottomWalks x = new BottomWalks(64, 800);
        x.loss(10.0, 10.0);
        for (int ping = 0; ping < 32; ping++) {
            x.value(ping, 63, 1000.0);
        }
        Due.whole("5 the greatest sum of all", 32 * (1000 + 64000 + 409600), x.run(32, 0));
        Due.number("5 its depth", 6400.0, x.bottom(31));
    }

    private static void againstAllRows() {
        for (int round = 0; round < 1500; round++) {
            int samples = 1 + next(4);
            int pings = 1 + next(5);
            int steep = next(3);
            BottomWalks x = new BottomWalks(samples, 8);
            int[][] strengths = new int[pings][samples];
            boolean[] walked = new boolean[pings];
            int[] only = new int[pings];
            for (int ping = 0; ping < pings; ping++) {
                tellPing(x, ping, strengths, walked, only);
            }
            compare("round " + round, x, steep, strengths, walked, only);
        }
    }

    /** Tells some samples of small values, so that many rows are equal; edits and loses some pings. */
    private static void tellPing(BottomWalks x, int ping, int[][] strengths, boolean[] walked, int[] only) {
        int samples = strengths[ping].length;
        only[ping] = -1;
        for (int k = 0; k < samples; k++) {
            if (next(4) != 0) {
                strengths[ping][k] = next(4);
                x.value(ping, k, strengths[ping][k]);
                walked[ping] = true;
            }
        }
        if (next(6) == 0) {
            x.lost(ping);
            walked[ping] = false;
            strengths[ping] = new int[samples];
        }
        if (next(5) == 0) {
            int depth = next(samples + 2);
            x.edit(ping, depth);
            walked[ping] = true;
            only[ping] = Math.min(samples - 1, Math.max(0, depth - 1));
        }
    }

    private static void compare(String round, BottomWalks x, int steep, int[][] strengths, boolean[] walked,
            int[] only) {
        int pings = strengths.length;
        int samples = strengths[0].length;
        int[] best = null;
        int bestSum = -1;
        int[] tried = new int[pings];
        do {
            int sum = sumOf(tried, steep, strengths, walked, only);
            if (sum > bestSum || (sum == bestSum && sum >= 0 && isLessDeep(tried, best))) {
                bestSum = sum;
                best = tried.clone();
            }
        } while (advance(tried, samples));
        boolean any = false;
        for (boolean one : walked) {
            any |= one;
        }
        Due.whole(round + " sum", any ? bestSum : -1, x.run(pings, steep));
        for (int ping = 0; any && ping < pings; ping++) {
            if (walked[ping] && only[ping] < 0) {
                Due.number(round + " bottom " + ping, best[ping] + 1.0, x.bottom(ping));
            }
        }
    }

    /** The sum of a row; -1 of what is none or does not keep the steepness. */
    private static int sumOf(int[] tried, int steep, int[][] strengths, boolean[] walked, int[] only) {
        int sum = 0;
        int before = -1;
        for (int ping = 0; ping < tried.length; ping++) {
            if (!walked[ping]) {
                if (tried[ping] != 0) {
                    return -1;
                }
                continue;
            }
            if (only[ping] >= 0 && tried[ping] != only[ping]) {
                return -1;
            }
            boolean free = before < 0 || only[ping] >= 0 || only[before] >= 0;
            if (!free && Math.abs(tried[ping] - tried[before]) > steep) {
                return -1;
            }
            sum += strengths[ping][tried[ping]];
            before = ping;
        }
        return sum;
    }

    private static boolean isLessDeep(int[] one, int[] other) {
        for (int ping = one.length - 1; ping >= 0; ping--) {
            if (one[ping] != other[ping]) {
                return one[ping] < other[ping];
            }
        }
        return false;
    }

    private static boolean advance(int[] tried, int samples) {
        for (int ping = 0; ping < tried.length; ping++) {
            tried[ping]++;
            if (tried[ping] < samples) {
                return true;
            }
            tried[ping] = 0;
        }
        return false;
    }

    private static int next(int bound) {
        seed = seed * 6364136223846793005L + 1442695040888963407L;
        return (int) ((seed >>> 33) % bound);
    }
}
