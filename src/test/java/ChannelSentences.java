import java.util.function.ToIntFunction;

/** The sentences of the promises 41 to 44. */
final class ChannelSentences {
    private static final int BAD = Due.BAD, STATE = Due.STATE, FULL = Due.FULL, OVERFLOW = Due.OVERFLOW, NONE = Due.NONE;
    private static final int MAX = Integer.MAX_VALUE, MIN = Integer.MIN_VALUE;
    private static final int LATEST = 1000000000;

    private ChannelSentences() {
    }

    static void hold(Sentences s) {
        setQuality(s);
        s.in("Promise 42");
        frames(s);
        draws(s);
        reported(s);
        arguments(s, (x, a) -> x.simulate(a[0], a[1], a[2], a[3]));
        simulateErrors(s);
        s.in("Promise 43");
        forecast(s);
        arguments(s, (x, a) -> x.forecast(a[0], a[1], a[2], a[3]));
        oracle(s);
    }

    private static void setQuality(Sentences s) {
        s.in("Promise 41");
        s.holds("Sets the quality of the simulated channel (act)", due -> {
            RetryChains x = Due.network(2, 1, 540, 1, 240);
            x.setQuality(0, 0, 0);
            x.setQuality(0, 1, 0);
            due.is("of this station", x.simulate(0, 9, 1, 1), 0);
            x.setQuality(1, 0, 1000);
            due.is("of the other one", x.simulate(1, 9, 1, 1), 9);
            x.setQuality(0, 1, 1000);
            due.is("of this rate", x.oracle(0, 1), 1);
        });
        s.holds("`station`: number of a station", due -> {
            RetryChains x = Due.network(3, 1, 540);
            due.range("setQuality(.., 0, 1)", station -> x.setQuality(station, 0, 1), 0, 2);
        });
        s.holds("`rate`: number of a rate", due -> {
            RetryChains x = Due.network(1, 1, 540, 1, 240);
            due.range("setQuality(0, .., 1)", rate -> x.setQuality(0, rate, 1), 0, 1);
        });
        s.holds("`quality`: 0 to 1000", due -> {
            RetryChains x = Due.network(1, 1, 540);
            due.range("setQuality(0, 0, ..)", quality -> x.setQuality(0, 0, quality), 0, 1000);
        });
        s.holds("Returns the previous quality", due -> {
            RetryChains x = Due.network(1, 1, 540);
            int[] qualities = {0, 1000, 1000, 7};
            due.row("setQuality", call -> x.setQuality(0, 0, qualities[call]), 500, 0, 1000, 1000);
        });
        s.holds("BAD if an argument is invalid", due -> {
            RetryChains x = Due.network(2, 1, 540);
            due.bad("setQuality(.., 0, 1)", station -> x.setQuality(station, 0, 1), 2, 4, -1, MIN, MAX);
            due.bad("setQuality(0, .., 1)", rate -> x.setQuality(0, rate, 1), 1, 8, -1, MIN, MAX);
            due.bad("setQuality(0, 0, ..)", quality -> x.setQuality(0, 0, quality), 1001, -1, MIN, MAX);
            due.is("the quality is as before", x.setQuality(0, 0, 1), 500);
        });
    }

    private static void frames(Sentences s) {
        s.holds("Sends n frames over the simulated channel (one act)", due -> {
            for (int n : new int[] {1, 2, 49, 50}) {
                RetryChains x = Due.network(1, 1, 540);
                long before = x.digest();
                x.simulate(0, n, 1, 1);
                due.is("chains(0)", x.chains(0), n);
                due.is("undo()", x.undo(), 3);
                due.is("digest()", x.digest(), before);
            }
        });
        s.holds("For each frame, a chain is laid", due -> {
            RetryChains x = Due.network(1, 1, 240, 1, 240, 1, 240, 1, 240);
            x.setShare(50);
            for (int chain = 0; chain < 5; chain++) {
                x.lay(0, 1);
            }
            int sampled = x.sampled(0);
            RetryChains y = Due.network(1, 1, 240, 1, 240, 1, 240, 1, 240);
            y.setShare(50);
            y.simulate(0, 5, 1, 1);
            due.is("the same chains as lay()", y.sampled(0), sampled);
            due.is("in the last free place", x.simulate(0, 9, 1, 1), x.delivered(0));
            due.is("chains(0)", x.chains(0), 14);
            due.is("the place is free again", x.kind(5), BAD);
            due.is("the other chains are open still", x.kind(4), 0);
            x.enqueue(0, 7);
            x.simulate(0, 1, 1, 1);
            due.is("the queue does not matter", x.queued(0), 1);
            due.is("one chain can be laid", x.lay(0, 1), 5);
        });
        s.holds("its tries are made in order until one succeeds or all have failed", due -> {
            RetryChains x = Due.network(1, 1, 240, 1, 540, 1, 60);
            x.setShare(0);
            x.setBudget(2000);
            x.setQuality(0, 0, 0);
            x.setQuality(0, 1, 1000);
            x.setQuality(0, 2, 1000);
            due.is("the first try of entry 1 succeeds", x.simulate(0, 1, 1200, 1), 1);
            due.row("triesOf(0, ..)", rate -> x.triesOf(0, rate), 3, 1, 0);
            due.row("successesOf(0, ..)", rate -> x.successesOf(0, rate), 0, 1, 0);
            x.setQuality(0, 1, 0);
            due.is("the last try succeeds", x.simulate(0, 1, 1200, 1), 1);
            due.row("triesOf(0, ..)", rate -> x.triesOf(0, rate), 9, 4, 1);
            x.setQuality(0, 2, 0);
            due.is("all fail", x.simulate(0, 1, 1200, 1), 0);
            due.row("triesOf(0, ..)", rate -> x.triesOf(0, rate), 15, 7, 2);
            due.is("lost(0)", x.lost(0), 1);
        });
    }

    private static void draws(Sentences s) {
        s.holds("An int y is the seed at first", due -> {
            for (int seed : new int[] {0, 1, -1, MIN, MAX, 12345}) {
                channel(due, seed, 500, 20);
            }
        });
        s.holds("for each try y becomes 1103515245 * y + 12345 (int, with overflow), and the try succeeds if (y >>> 16) % 1000 "
                + "is less than the quality of its rate", due -> {
            channel(due, 7, 500, 50);
            channel(due, -123456789, 300, 50);
            channel(due, 99, 0, 50);
            channel(due, 99, 1, 50);
            channel(due, 99, 999, 50);
            channel(due, 99, 1000, 50);
            // the first draw from 1 is 16838, so it is 838
            channel(due, 1, 838, 1);
            channel(due, 1, 839, 1);
            RetryChains x = Due.network(1, 1, 540);
            x.setQuality(0, 0, 838);
            x.simulate(0, 1, 1, 1);
            due.is("838 is not less than 838", x.triesOf(0, 0) > 1 ? 1 : 0, 1);
            x = Due.network(1, 1, 540);
            x.setQuality(0, 0, 839);
            x.simulate(0, 1, 1, 1);
            due.is("838 is less than 839", x.triesOf(0, 0), 1);
        });
    }

    /** One rate and one try for each entry: four tries a frame, of 84 + 67 microseconds. */
    private static void channel(Due due, int seed, int quality, int frames) {
        RetryChains x = Due.network(1, 1, 540);
        x.setBudget(100);
        x.setQuality(0, 0, quality);
        int y = seed;
        int delivered = 0;
        int tries = 0;
        for (int frame = 0; frame < frames; frame++) {
            boolean ok = false;
            for (int attempt = 0; attempt < 4 && !ok; attempt++) {
                y = 1103515245 * y + 12345;
                ok = (y >>> 16) % 1000 < quality;
                tries++;
            }
            delivered += ok ? 1 : 0;
        }
        due.is("forecast, seed " + seed, x.forecast(0, frames, 1, seed), delivered);
        due.is("simulate, seed " + seed, x.simulate(0, frames, 1, seed), delivered);
        due.is("triesOf(0, 0)", x.triesOf(0, 0), tries);
        due.is("time()", x.time(), 151 * tries);
    }

    private static void reported(Sentences s) {
        s.holds("Then the result is reported as by report()", due -> {
            RetryChains x = Due.network(1, 1, 540);
            RetryChains y = Due.network(1, 1, 540);
            x.setBudget(100);
            y.setBudget(100);
            x.setQuality(0, 0, 100);
            x.simulate(0, 40, 1, 77);
            int draw = 77;
            for (int frame = 0; frame < 40; frame++) {
                y.lay(0, 1);
                int tries = 0;
                boolean ok = false;
                while (tries < 4 && !ok) {
                    draw = 1103515245 * draw + 12345;
                    ok = (draw >>> 16) % 1000 < 100;
                    tries++;
                }
                y.report(0, tries, ok);
            }
            due.is("digest()", x.digest(), y.digest());
            due.is("fallbacks began and ended", x.events() > 1 ? 1 : 0, 1);
            for (int k = 0; k < 20; k++) {
                due.is("eventKind(" + k + ")", x.eventKind(k), y.eventKind(k));
                due.is("eventTime(" + k + ")", x.eventTime(k), y.eventTime(k));
            }
            // the interval ends between two frames
            RetryChains z = new RetryChains();
            z.addRate(1, 540);
            z.setBudget(100);
            z.setInterval(1000);
            z.addStation();
            z.setQuality(0, 0, 1000);
            z.simulate(0, 6, 1, 1);
            due.is("at 906", z.estimate(0, 0), NONE);
            z.simulate(0, 50, 1, 1);
            due.is("at 1057", z.estimate(0, 0), 65536);
            due.is("7 each: none is left", z.update(0), 0);
        });
        s.holds("Returns how many of these frames were delivered", due -> {
            RetryChains x = Due.network(1, 1, 540);
            x.setQuality(0, 0, 1000);
            due.is("all", x.simulate(0, 50, 1, 1), 50);
            due.is("all of these", x.simulate(0, 3, 1, 1), 3);
            x.setQuality(0, 0, 0);
            due.is("none", x.simulate(0, 50, 1, 1), 0);
        });
    }

    private interface Simulation {
        int of(RetryChains x, int... arguments);
    }

    private static void arguments(Sentences s, Simulation call) {
        s.holds("`station`: number of a station", due -> {
            RetryChains x = Due.network(3, 1, 540);
            due.range("station", station -> call.of(x, station, 1, 1, 1), 0, 2);
        });
        s.holds("`n`: 1 to 50", due -> {
            RetryChains x = Due.network(1, 1, 540);
            due.range("n", n -> call.of(x, 0, n, 1, 1), 1, 50);
        });
        s.holds("`size`: size of the frames in bytes, 1 to 4000", due -> {
            RetryChains x = Due.network(1, 1, 540);
            due.range("size", size -> call.of(x, 0, 1, size, 1), 1, 4000);
            x.setQuality(0, 0, 1000);
            due.is("50 frames of 4000 bytes", call.of(x, 0, 50, 4000, 1), 50);
        });
        s.holds("`seed`: any int", due -> {
            RetryChains x = Due.network(1, 1, 540);
            x.setQuality(0, 0, 1000);
            for (int seed : new int[] {0, 1, -1, MIN, MAX, MIN + 1}) {
                due.is("seed " + seed, call.of(x, 0, 1, 1, seed), 1);
            }
        });
    }

    private static void simulateErrors(Sentences s) {
        s.holds("BAD if an argument is invalid", due -> wrongArguments(due, (x, a) -> x.simulate(a[0], a[1], a[2], a[3])));
        s.holds("STATE if the station has no allowed rate", due -> noRate(due, x -> x.simulate(0, 1, 1, 1)));
        s.holds("FULL if 6 chains are open", due -> fullyOpen(due, x -> x.simulate(0, 1, 1, 1)));
        s.holds("OVERFLOW if the present time is greater than 1000000000", due -> {
            late(due, x -> x.simulate(0, 1, 1, 1));
            // within the 50 frames it can become greater
            RetryChains x = Due.network(1, 0, 10);
            x.setQuality(0, 0, 0);
            x.pass(LATEST);
            due.is("from 1000000000 on", x.simulate(0, 50, 4000, 1), 0);
            due.is("chains(0)", x.chains(0), 50);
            due.is("time()", x.time(), LATEST + 50 * 4 * 32319);
            due.is("again", x.simulate(0, 1, 1, 1), OVERFLOW);
            // late frames fare like early ones, and intervals end as ever
            RetryChains early = threeUpdates(0);
            RetryChains late = threeUpdates(LATEST);
            due.is("time()", late.time(), LATEST + early.time());
            due.is("delivered(0)", late.delivered(0), early.delivered(0));
            due.is("events()", late.events(), early.events());
            due.row("estimate(0, ..)", rate -> late.estimate(0, rate), early.estimate(0, 0), early.estimate(0, 1), BAD);
        });
    }

    /** Frames of some three intervals, simulated at this time. */
    private static RetryChains threeUpdates(int time) {
        RetryChains x = new RetryChains();
        x.addRate(1, 540);
        x.addRate(1, 60);
        x.setInterval(120000);
        x.addStation();
        x.setQuality(0, 0, 30);
        x.setQuality(0, 1, 60);
        x.pass(time);
        x.simulate(0, 30, 1200, 5);
        return x;
    }

    private static void wrongArguments(Due due, Simulation call) {
        RetryChains x = Due.network(2, 1, 540);
        due.bad("station", station -> call.of(x, station, 1, 1, 1), 2, 4, -1, MIN, MAX);
        due.bad("n", n -> call.of(x, 0, n, 1, 1), 0, 51, -1, MIN, MAX);
        due.bad("size", size -> call.of(x, 0, 1, size, 1), 0, 4001, -1, MIN, MAX);
        due.is("chains(0)", x.chains(0), 0);
    }

    private static void noRate(Due due, ToIntFunction<RetryChains> call) {
        due.is("without rates", call.applyAsInt(Due.network(1)), STATE);
        RetryChains x = Due.network(1, 1, 540, 1, 240);
        x.setQuality(0, 1, 1000);
        x.allow(0, 0, false);
        due.is("one of two", call.applyAsInt(x), 1);
        x.allow(0, 1, false);
        due.is("none of two", call.applyAsInt(x), STATE);
    }

    private static void fullyOpen(Due due, ToIntFunction<RetryChains> call) {
        RetryChains x = Due.network(2, 1, 540);
        x.setQuality(0, 0, 1000);
        for (int chain = 0; chain < 5; chain++) {
            x.lay(1, 1);
        }
        due.is("5 chains are open", call.applyAsInt(x), 1);
        x.lay(1, 1);
        due.is("6 chains are open", call.applyAsInt(x), FULL);
        x.report(0, 1, true);
        due.is("5 chains are open", call.applyAsInt(x), 1);
    }

    private static void late(Due due, ToIntFunction<RetryChains> call) {
        RetryChains x = Due.network(1, 1, 540);
        x.setQuality(0, 0, 1000);
        x.pass(LATEST);
        due.is("at 1000000000", call.applyAsInt(x), 1);
        x = Due.network(1, 1, 540);
        x.setQuality(0, 0, 1000);
        x.pass(LATEST + 1);
        due.is("at 1000000001", call.applyAsInt(x), OVERFLOW);
        x.pass(MAX - x.time());
        due.is("at 2147483647", call.applyAsInt(x), OVERFLOW);
    }

    private static void forecast(Sentences s) {
        s.holds("Tells what simulate() would return now", due -> {
            RetryChains x = Twins.travelled();
            x.setBudget(300);
            for (int rate = 0; rate < 4; rate++) {
                x.setQuality(0, rate, 60 * rate);
                x.setQuality(1, rate, 200 - 60 * rate);
            }
            int lost = 0;
            for (int round = 0; round < 20; round++) {
                int n = 1 + round * 7 % 50;
                int told = x.forecast(round % 2, n, 100 + round, 1000 * round);
                due.is("simulate", x.simulate(round % 2, n, 100 + round, 1000 * round), told);
                lost += n - told;
            }
            due.is("frames were lost", lost > 50 ? 1 : 0, 1);
        });
        s.holds("Nothing changes", due -> {
            RetryChains x = Twins.travelled();
            int answer = x.forecast(0, 50, 900, 5);
            Twins.noTrace(due, "forecast(0, 50, 900, 5)", Twins::travelled, y -> y.forecast(0, 50, 900, 5), answer);
            answer = x.forecast(1, 50, 4000, -5);
            Twins.noTrace(due, "forecast(1, 50, 4000, -5)", Twins::travelled, y -> y.forecast(1, 50, 4000, -5), answer);
        });
        s.holds("Returns as for simulate(), with the same errors", due -> {
            wrongArguments(due, (x, a) -> x.forecast(a[0], a[1], a[2], a[3]));
            noRate(due, x -> x.forecast(0, 1, 1, 1));
            fullyOpen(due, x -> x.forecast(0, 1, 1, 1));
            late(due, x -> x.forecast(0, 1, 1, 1));
        });
    }

    private static void oracle(Sentences s) {
        s.in("Promise 44");
        s.said("Returns the rate; BAD");
        s.holds("Returns the allowed rate that is best by the simulated channel", due -> {
            RetryChains x = Due.network(2, 1, 60, 1, 540, 1, 240);
            Due.teach(x, 0, 0, 1);
            due.is("estimates do not matter", x.oracle(0, 1200), 1);
            x.setQuality(0, 2, 1000);
            due.is("260 by 500 and 484 by 1000", x.oracle(0, 1200), 2);
            due.is("another station", x.oracle(1, 1200), 1);
            x.allow(0, 2, false);
            due.is("it has to be allowed", x.oracle(0, 1200), 1);
        });
        s.holds("the one with the greatest ratio of its quality to the air time of a frame", due -> {
            // at 1200 bytes 884 and 484: 884 * 250 is 484 * 456.6
            RetryChains x = Due.network(1, 1, 120, 1, 240);
            x.setQuality(0, 1, 250);
            x.setQuality(0, 0, 456);
            due.is("456 by 884 is less than 250 by 484", x.oracle(0, 1200), 1);
            x.setQuality(0, 0, 457);
            due.is("457 by 884 is more", x.oracle(0, 1200), 0);
            due.is("at 4000 bytes 2756 and 1420", x.oracle(0, 4000), 1);
            due.is("at 1 byte 84 and 84", x.oracle(0, 1), 0);
            // ratios so near that a quotient or a float takes them for equal: 895 * 17399 + 1 = 649 * 23994
            RetryChains y = Due.network(1, 0, 13, 0, 18);
            due.is("23994 and 17399", y.airTime(0, 3858) * 10000L + y.airTime(1, 3858), 23994 * 10000L + 17399);
            y.setQuality(0, 0, 895);
            y.setQuality(0, 1, 649);
            due.is("649 by 17399 is more", y.oracle(0, 3858), 1);
        });
        s.holds("of several the smallest number", due -> {
            RetryChains x = Due.network(1, 1, 60, 1, 120, 1, 240, 1, 240);
            due.is("equal rates", x.oracle(0, 4000), 2);
            // at 1 byte 88, 84, 84 and 84
            due.is("equal times", x.oracle(0, 1), 1);
            x.setQuality(0, 1, 250);
            x.setQuality(0, 0, 250);
            x.setQuality(0, 3, 501);
            due.is("501 is more than 500", x.oracle(0, 1), 3);
            // 250 by 242 and 500 by 484
            RetryChains y = Due.network(1, 1, 240, 0, 10);
            due.is("equal times", y.airTime(0, 1200), 484);
            y.setQuality(0, 1, 1000);
            due.is("1000 by 260 is less than 500 by 84", y.oracle(0, 1), 0);
        });
        s.holds("`station`: number of a station", due -> {
            RetryChains x = Due.network(3, 1, 540);
            due.range("oracle(.., 1)", station -> x.oracle(station, 1), 0, 2);
        });
        s.holds("`size`: size of the frame in bytes, 1 to 4000", due -> {
            RetryChains x = Due.network(1, 1, 540);
            due.range("oracle(0, ..)", size -> x.oracle(0, size), 1, 4000);
        });
        s.holds("BAD if an argument is invalid", due -> {
            RetryChains x = Due.network(2, 1, 540);
            due.bad("oracle(.., 1)", station -> x.oracle(station, 1), 2, 4, -1, MIN, MAX);
            due.bad("oracle(0, ..)", size -> x.oracle(0, size), 0, 4001, -1, MIN, MAX);
        });
        s.holds("NONE if the station has no allowed rate with a quality above 0", due -> {
            due.is("no rate", Due.network(1).oracle(0, 1), NONE);
            RetryChains x = Due.network(1, 1, 540, 1, 240);
            x.setQuality(0, 0, 0);
            due.is("one of two", x.oracle(0, 1), 1);
            x.setQuality(0, 1, 1);
            due.is("a quality of 1", x.oracle(0, 4000), 1);
            x.allow(0, 1, false);
            due.is("the other is forbidden", x.oracle(0, 1), NONE);
            x.allow(0, 1, true);
            x.setQuality(0, 1, 0);
            due.is("both are 0", x.oracle(0, 1), NONE);
        });
    }
}
