/** "What it is" and "Terms": the sentences that all promises rest on, each at its edges. */
public final class TermsTest {
    public static void main(String[] args) {
        callsUpToTheLast();
        objectsOfTheirOwn();
        pingsAndFrequenciesOfTheirOwn();
        rangeOfASample();
        strengthWhereNothingWasTold();
        strengthOfALostPing();
        strengthIsCut();
        strengthIsNotBelowZero();
        strengthFromTheLeftToTheRight();
        emptyPing();
        walkWithoutLostAndEmptyPings();
        walkWithEditedPings();
        sampleOfAnEditedPing();
        steepnessAtMost();
        steepnessFromPingToPing();
        steepnessToTheNextPingOfTheWalk();
        steepnessBesideAnEditedPing();
        sumOfStrengths();
        askedAsTheyAreNow();
        editedAfterTheRun();
        Due.end();
    }

    /** 509 values, a run, and as 511th and 512th call two questions. */
    private static void callsUpToTheLast() {
        BottomWalks x = new BottomWalks(64, 800);
        for (int i = 0; i < 509; i++) {
            x.value(i % 32, i / 32, (i + 3) % 7);
        }
        Due.whole("call 510", 32 * 6, x.run(32, 64));
        Due.yes("call 511", x.greatest());
        Due.number("call 512: sample 6 is the first of ping 0 with 6", 700.0, x.bottom(0));
    }

    private static void objectsOfTheirOwn() {
        BottomWalks one = Boats.make(Boats.NAMES[0]);
        BottomWalks other = Boats.make(Boats.NAMES[2]);
        Due.same("one object is told nothing by another", Answers.of(Boats.make(Boats.NAMES[0])), Answers.of(one));
        Due.same("nor forgets by it", Answers.of(Boats.make(Boats.NAMES[2])), Answers.of(other));
    }

    private static void pingsAndFrequenciesOfTheirOwn() {
        BottomWalks x = new BottomWalks(2, 8);
        for (int f = 3; f >= 0; f--) {
            x.frequency(f);
            for (int ping = 0; ping < 32; ping++) {
                Due.yes("empty before it is told", x.empty(ping));
                Due.yes("ping " + ping + " of " + f, x.value(ping, 1, 100.0 * f + ping));
            }
        }
        for (int f = 0; f < 4; f++) {
            for (int ping = 0; ping < 32; ping++) {
                Due.number("ping " + ping + " of " + f, 100.0 * f + ping, x.joined(f, ping, 1));
            }
        }
        BottomWalks y = new BottomWalks(1, 8);
        y.value(0, 0, 5.0);
        Due.number("frequency 0 is chosen at first", 5.0, y.joined(0, 0, 0));
        for (int f = 1; f < 4; f++) {
            Due.number("and not " + f, 0.0, y.joined(f, 0, 0));
        }
    }

    private static void rangeOfASample() {
        int[] eighths = {1, 8, 800};
        double[] metres = {0.125, 1.0, 100.0};
        for (int i = 0; i < eighths.length; i++) {
            for (int k = 0; k < 64; k++) {
                BottomWalks x = new BottomWalks(64, eighths[i]);
                x.value(0, k, 1.0);
                x.run(1, 0);
                Due.number("range of sample " + k, (k + 1) * metres[i], x.bottom(0));
            }
        }
    }

    /** With losses that would make a strength of a value of 0.0. */
    private static void strengthWhereNothingWasTold() {
        BottomWalks x = new BottomWalks(3, 800);
        x.loss(10.0, 10.0);
        x.value(0, 1, 0.0);
        Due.number("nothing told of the last", 0.0, x.joined(0, 0, 2));
        Due.whole("one told of three", 2000 + 400, x.run(1, 0));
        Due.number("one told of three", 200.0, x.bottom(0));
        Due.number("the first was not told: no bubbles", 0.0, x.surface(0));
        x.value(0, 0, 0.0);
        Due.number("two were told: bubbles", 200.0, x.surface(0));
        Due.number("nothing told behind the bottom", 0.0, x.tail(0));
        x.value(0, 2, 0.0);
        Due.number("told behind the bottom", 3000.0 + 900.0, x.tail(0));
    }

    private static void strengthOfALostPing() {
        BottomWalks x = new BottomWalks(3, 800);
        x.loss(10.0, 10.0);
        for (int k = 0; k < 3; k++) {
            x.value(4, k, 1000.0);
        }
        x.run(32, 0);
        x.edit(4, 100.0);
        Due.number("not lost: behind the edited one", 1000.0 + 2000.0 + 400.0 + 1000.0 + 3000.0 + 900.0, x.tail(4));
        Due.yes("lost", x.lost(4));
        Due.number("lost: joined", 0.0, x.joined(0, 4, 0));
        Due.number("lost: the last joined", 0.0, x.joined(0, 4, 2));
        Due.number("lost: surface", 0.0, x.surface(4));
        Due.number("lost: tail", 0.0, x.tail(4));
        Due.whole("lost: kind", 0, x.kind(4));
        Due.whole("lost, but edited: run", 0, x.run(32, 0));
        Due.yes("told when it is lost", x.value(4, 2, 999.0));
        Due.number("from now on", 0.0, x.joined(0, 4, 2));
    }

    private static void strengthIsCut() {
        double[] values = {0.5, Math.nextDown(1.0), 1.0, Math.nextUp(1.0), Math.nextDown(2.0), 2.5, 3.5, 999.9999};
        double[] strengths = {0.0, 0.0, 1.0, 1.0, 1.0, 2.0, 3.0, 999.0};
        for (int i = 0; i < values.length; i++) {
            BottomWalks x = new BottomWalks(1, 8);
            x.value(0, 0, values[i]);
            Due.number("cut of " + values[i], strengths[i], x.joined(0, 0, 0));
        }
    }

    private static void strengthIsNotBelowZero() {
        double[] noises = {4.0, 4.5, 5.0, Math.nextUp(5.0), 5.5, 6.0, 7.0, 1000.0};
        double[] strengths = {1.0, 0.0, 0.0, 0.0, 0.0, 0.0, 0.0, 0.0};
        for (int i = 0; i < noises.length; i++) {
            BottomWalks x = new BottomWalks(1, 8);
            x.value(0, 0, 5.0);
            x.value(1, 0, 1000.0);
            x.noise(noises[i]);
            long other = (long) (1000.0 - noises[i]);
            Due.number("5.0 under a noise of " + noises[i], strengths[i], x.joined(0, 0, 0));
            Due.whole("it takes nothing from a sum", (long) strengths[i] + other, x.run(2, 0));
        }
    }

    /** Each row was looked for: another order of the operations, or other brackets, cut to another strength. */
    private static void strengthFromTheLeftToTheRight() {
        double[][] valueSpreadAbsorbNoise = {
            {602.10365, 3.0, 9.4, 973.1}, {791.09595, 5.0, 9.8, 819.4}, {342.752575, 3.3, 1.7, 910.3}
        };
        int[] lastSamples = {51, 6, 11};
        int[] eighths = {33, 164, 207};
        double[] strengths = {705.0, 890.0, 621.0};
        for (int i = 0; i < strengths.length; i++) {
            double[] row = valueSpreadAbsorbNoise[i];
            BottomWalks x = new BottomWalks(lastSamples[i] + 1, eighths[i]);
            x.value(0, lastSamples[i], row[0]);
            x.loss(row[1], row[2]);
            x.noise(row[3]);
            Due.number("strength of " + row[0], strengths[i], x.joined(0, 0, lastSamples[i]));
        }
    }

    private static void emptyPing() {
        int[] samplesTold = {0, 31, 63};
        for (int k : samplesTold) {
            BottomWalks x = new BottomWalks(64, 8);
            x.frequency(2);
            Due.yes("none was told", x.empty(9));
            x.value(9, k, 0.0);
            Due.no("sample " + k + " alone was told, of 0.0", x.empty(9));
            Due.yes("the ping before it", x.empty(8));
            Due.yes("the ping behind it", x.empty(10));
            x.lost(9);
            Due.no("lost is not empty", x.empty(9));
            x.edit(8, 1.0);
            Due.yes("edited is empty all the same", x.empty(8));
            x.frequency(1);
            Due.yes("the frequency before it", x.empty(9));
            x.frequency(3);
            Due.yes("the frequency behind it", x.empty(9));
        }
    }

    private static void walkWithoutLostAndEmptyPings() {
        for (int ping = 0; ping < 32; ping++) {
            BottomWalks x = new BottomWalks(2, 8);
            for (int other = 0; other < 32; other++) {
                if (other != ping) {
                    x.value(other, 1, 1.0);
                }
            }
            Due.whole("all but the empty one", 31, x.run(32, 0));
            Due.number("the empty one was not walked over", -1.0, x.tail(ping));
            x.value(ping, 1, 1.0);
            Due.number("nor is it when it is told after the run", -1.0, x.tail(ping));
            Due.whole("all", 32, x.run(32, 0));
            Due.number("it was walked over", 0.0, x.tail(ping));
            x.lost(ping);
            Due.number("and still was when it is lost after the run", 0.0, x.tail(ping));
            Due.whole("all but the lost one", 31, x.run(32, 0));
            Due.number("the lost one was not walked over", -1.0, x.tail(ping));
        }
    }

    private static void walkWithEditedPings() {
        BottomWalks x = new BottomWalks(3, 8);
        x.value(1, 2, 9.0);
        x.lost(1);
        x.frequency(1);
        x.value(2, 1, 9.0);
        x.frequency(0);
        Due.whole("one lost, one empty here, others empty", -1, x.run(32, 64));
        x.edit(1, 1.5);
        Due.whole("lost and edited", 0, x.run(32, 64));
        Due.number("lost and edited", 1.5, x.bottom(1));
        x.edit(2, 2.5);
        x.edit(31, 0.5);
        Due.whole("empty and edited", 0, x.run(32, 64));
        Due.number("empty here and edited", 2.5, x.bottom(2));
        Due.number("empty everywhere and edited", 0.5, x.bottom(31));
        Due.whole("an edited ping at the end of the pings", 0, x.run(2, 64));
        Due.number("is in it", 1.5, x.bottom(1));
        Due.number("the next one is not", -1.0, x.bottom(2));
    }

    private static void sampleOfAnEditedPing() {
        double[] depths = {
            0.0, Double.MIN_VALUE, Math.nextDown(0.5), 0.5, Math.nextUp(0.5), Math.nextDown(1.0), 1.0,
            Math.nextUp(1.0), 1.5, Math.nextUp(1.5), 2.0, Math.nextUp(2.0), 10000.0
        };
        int[] sums = {1, 1, 1, 1, 2, 2, 2, 4, 4, 8, 8, 8, 8};
        for (int i = 0; i < depths.length; i++) {
            BottomWalks x = new BottomWalks(4, 4);
            for (int k = 0; k < 4; k++) {
                x.value(0, k, 1 << k);
            }
            x.edit(0, depths[i]);
            Due.whole("one sample counts at " + depths[i], sums[i], x.run(1, 64));
            Due.number("the depth is the one told", depths[i], x.bottom(0));
            Due.number("tail behind the one that counts", 15 - (2 * sums[i] - 1), x.tail(0));
        }
        BottomWalks one = new BottomWalks(1, 4);
        one.value(0, 0, 3.0);
        one.edit(0, 0.0);
        Due.whole("the first and only one", 3, one.run(1, 0));
        one.edit(0, 0.75);
        Due.whole("there is none such: the last and only one", 3, one.run(1, 0));
    }

    /** Every difference of samples, downwards and upwards, just allowed and just not. */
    private static void steepnessAtMost() {
        for (int steep = 0; steep < 64; steep++) {
            int[][] samplePairs = {{0, steep}, {steep, 0}, {63 - steep, 63}, {63, 63 - steep}};
            for (int[] pair : samplePairs) {
                BottomWalks x = new BottomWalks(64, 8);
                x.value(0, pair[0], 3.0);
                x.value(1, pair[1], 4.0);
                Due.whole("a step of " + steep + " with " + steep, 7, x.run(2, steep));
                Due.number("from", pair[0] + 1, x.bottom(0));
                Due.number("to", pair[1] + 1, x.bottom(1));
                Due.whole("with one more", 7, x.run(2, steep + 1));
                if (steep > 0) {
                    Due.whole("with one less", 4, x.run(2, steep - 1));
                    Due.number("to the greater one", pair[1] + 1, x.bottom(1));
                    int leastDeep = Math.max(0, pair[1] - (steep - 1));
                    Due.number("from the least deep that may be", leastDeep + 1, x.bottom(0));
                }
            }
        }
    }

    /** A row may go as far as it likes in many steps, not in one. */
    private static void steepnessFromPingToPing() {
        BottomWalks x = new BottomWalks(64, 8);
        for (int ping = 0; ping < 32; ping++) {
            x.value(ping, 2 * ping, 5.0);
        }
        Due.whole("down by 2 a ping", 160, x.run(32, 2));
        Due.number("the first", 1.0, x.bottom(0));
        Due.number("the last", 63.0, x.bottom(31));
        Due.whole("by 1 a ping one is met, and no other", 5, x.run(32, 1));
        Due.whole("level", 5, x.run(32, 0));
    }

    private static void steepnessToTheNextPingOfTheWalk() {
        BottomWalks x = new BottomWalks(10, 8);
        x.value(0, 0, 5.0);
        x.value(31, 3, 6.0);
        Due.whole("however many numbers are between them", 11, x.run(32, 3));
        Due.whole("no more for being far away", 6, x.run(32, 2));
        x.value(15, 2, 0.0);
        Due.whole("told, of 0.0: a step between", 11, x.run(32, 2));
        Due.number("it holds the row", 2.0, x.bottom(15));
        x.lost(15);
        Due.whole("lost: no step between", 6, x.run(32, 2));
    }

    private static void steepnessBesideAnEditedPing() {
        double[] depths = {64.0, 64.0, 41.0};
        for (int edited = 0; edited < 3; edited++) {
            BottomWalks x = new BottomWalks(64, 8);
            x.value(0, 0, 20.0);
            x.value(0, 63, 20.0);
            x.value(1, 40, 10.0);
            x.value(1, 63, 10.0);
            x.value(2, 0, 20.0);
            x.value(2, 40, 30.0);
            x.value(2, 63, 20.0);
            Due.whole("level without edits", 50, x.run(3, 0));
            Due.number("level without edits", 64.0, x.bottom(2));
            x.edit(edited, depths[edited]);
            Due.whole("from and to ping " + edited + " as it likes, level elsewhere", 60, x.run(3, 0));
            Due.number("ping 2 is where it is strongest", 41.0, x.bottom(2));
        }
        BottomWalks y = new BottomWalks(64, 8);
        y.value(0, 0, 5.0);
        y.value(1, 63, 5.0);
        y.edit(0, 1.0);
        y.edit(1, 64.0);
        Due.whole("both edited", 10, y.run(2, 0));
    }

    private static void sumOfStrengths() {
        BottomWalks x = new BottomWalks(2, 8);
        for (int ping = 0; ping < 10; ping++) {
            x.value(ping, 1, 1.9);
        }
        Due.whole("of what is cut, not the cut of a sum", 10, x.run(32, 0));
        Due.number("so all of ping 0", 2.0, x.bottom(0));
        x.noise(1.0);
        Due.whole("nine tenths are nothing", 0, x.run(32, 0));
        Due.number("all rows are equal: the least deep", 1.0, x.bottom(0));
    }

    private static void askedAsTheyAreNow() {
        BottomWalks x = new BottomWalks(3, 8);
        x.value(0, 0, 9.0);
        x.value(0, 1, 5.0);
        x.run(1, 0);
        Due.number("tail as it was", 5.0, x.tail(0));
        x.value(0, 2, 1000.0);
        Due.number("told now", 1005.0, x.tail(0));
        Due.number("the row is that of the run", 1.0, x.bottom(0));
        x.noise(5.0);
        Due.number("noise now", 995.0, x.tail(0));
        x.loss(1.0, 0.0);
        Due.number("losses now", 2.0 + 998.0, x.tail(0));
        x.tide(0, -3.0);
        Due.number("tide now", -2.0, x.bottom(0));
        x.edit(0, 2.0);
        Due.number("edit now", -1.0, x.bottom(0));
        Due.number("behind the one that counts now", 998.0, x.tail(0));
        x.lost(0);
        Due.number("lost now", 0.0, x.tail(0));
        Due.number("it was walked over then", -1.0, x.bottom(0));
        Due.number("dead of the depth told", 0.5 + 0.02 * 2.0, x.dead(0));
    }

    private static void editedAfterTheRun() {
        BottomWalks x = new BottomWalks(10, 8);
        x.value(0, 3, 9.0);
        x.value(2, 5, 9.0);
        x.run(32, 64);
        x.edit(1, 50.0);
        Due.number("not of the walk: bridged as others", 5.0, x.bottom(1));
        Due.whole("not of the walk: bridged as others", 1, x.bridged(0));
        Due.number("not of the walk: dead as others", 0.5 + 0.02 * 5.0, x.dead(1));
        Due.number("not of the walk: no tail", -1.0, x.tail(1));
        Due.whole("not of the walk: no kind", -1, x.kind(1));
        x.edit(3, 50.0);
        Due.number("not of the walk, behind it: none", -1.0, x.bottom(3));
        Due.number("not of the walk, behind it: no dead zone", -1.0, x.dead(3));
        x.edit(2, 9.0);
        Due.number("of the walk: the depth told now", 9.0, x.bottom(2));
        Due.number("the bridge leads there", 6.5, x.bottom(1));
        x.edit(0, 1.0);
        Due.number("and from there", 5.0, x.bottom(1));
        double w1 = 1.0 / (1.0 + 1.0 + 0.0);
        double w2 = 1.0 / (1.0 + 4.0 + 0.0);
        Due.number("the map too", (1.0 * 1.0 + w1 * 5.0 + w2 * 9.0) / (1.0 + w1 + w2), x.map(0.0, 0.0));
        x.value(3, 9, 7.0);
        Due.whole("a new run takes all of them", 7, x.run(32, 0));
        Due.number("a new run takes all of them", 50.0, x.bottom(1));
        Due.number("a new run takes all of them", 50.0, x.bottom(3));
    }
}
