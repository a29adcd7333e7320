import java.util.function.ToIntBiFunction;

/** The sentences of the promises 33 to 40. */
final class CountSentences {
    private static final int BAD = Due.BAD;
    private static final int MAX = Integer.MAX_VALUE, MIN = Integer.MIN_VALUE;

    private CountSentences() {
    }

    static void hold(Sentences s) {
        chains(s);
        sampled(s);
        delivered(s);
        lost(s);
        queued(s);
        deficit(s);
        inFallback(s);
        time(s);
    }

    private static void station(Sentences s, String name, String none, int error, ToIntBiFunction<RetryChains, Integer> asked) {
        s.holds("`station`: number of a station", due -> {
            for (int stations = 1; stations <= 4; stations++) {
                RetryChains x = Due.network(stations, 1, 540);
                for (int station = 0; station < 4; station++) {
                    int answer = station < stations ? 0 : error;
                    due.is(name + "(" + station + ") of " + stations, asked.applyAsInt(x, station), answer);
                }
                due.is(name + "(-1)", asked.applyAsInt(x, -1), error);
            }
        });
        s.holds(none, due -> {
            RetryChains x = Due.network(2, 1, 540);
            for (int station : new int[] {2, 4, 5, -1, MIN, MAX}) {
                due.is(name + "(" + station + ")", asked.applyAsInt(x, station), error);
            }
            due.is(name + "(0) of none", asked.applyAsInt(new RetryChains(), 0), error);
            x.undo();
            due.is(name + "(1) after undo()", asked.applyAsInt(x, 1), error);
            due.is(name + "(0)", asked.applyAsInt(x, 0), 0);
        });
    }

    private static void chains(Sentences s) {
        s.in("Promise 33");
        s.said("Returns the number; BAD");
        s.holds("Returns the number of chains that were laid for a station", due -> {
            RetryChains x = Due.network(2, 1, 540);
            x.lay(0, 1);
            x.enqueue(0, 1);
            due.is("a frame in the queue is no chain", x.chains(0), 1);
            x.dispatch();
            due.is("by dispatch()", x.chains(0), 2);
            x.report(0, 1, true);
            due.is("it counts also when it is closed", x.chains(0), 2);
            x.simulate(0, 50, 1, 1);
            due.is("by simulate()", x.chains(0), 52);
            x.lay(0, 0);
            due.is("not by an error", x.chains(0), 52);
            due.is("chains(1)", x.chains(1), 0);
        });
        station(s, "chains", "BAD if there is no such station", BAD, RetryChains::chains);
    }

    private static void sampled(Sentences s) {
        s.in("Promise 34");
        s.said("Returns the number; BAD");
        s.holds("Returns how many of the chains of a station were sampling chains", due -> {
            RetryChains x = Due.network(2, 1, 240, 1, 240, 1, 240, 1, 240);
            x.setShare(50);
            x.lay(0, 1);
            due.is("a plain chain", x.sampled(0), 0);
            x.lay(0, 1);
            due.is("a sampling chain", x.sampled(0), 1);
            x.report(1, 1, true);
            due.is("a closed one", x.sampled(0), 1);
            x.allow(0, 2, false);
            x.lay(0, 1);
            x.lay(0, 1);
            due.is("a refused candidate", x.refusal(0, 1), 11);
            due.is("a refused candidate", x.sampled(0), 1);
            due.is("sampled(1)", x.sampled(1), 0);
        });
        station(s, "sampled", "BAD if there is no such station", BAD, RetryChains::sampled);
    }

    private static void delivered(Sentences s) {
        s.in("Promise 35");
        s.said("Returns the number; BAD");
        s.holds("Returns how many frames of a station were delivered", due -> {
            RetryChains x = Due.network(2, 1, 540);
            x.lay(0, 1);
            due.is("an open chain", x.delivered(0), 0);
            x.report(0, 24, true);
            due.is("by the last try", x.delivered(0), 1);
            x.lay(0, 1);
            x.report(0, 24, false);
            due.is("a lost one", x.delivered(0), 1);
            x.setQuality(0, 0, 1000);
            x.simulate(0, 50, 1, 1);
            due.is("by simulate()", x.delivered(0), 51);
            due.is("delivered(1)", x.delivered(1), 0);
        });
        station(s, "delivered", "BAD if there is no such station", BAD, RetryChains::delivered);
    }

    private static void lost(Sentences s) {
        s.in("Promise 36");
        s.said("Returns the number; BAD");
        s.holds("Returns how many frames of a station were lost", due -> {
            RetryChains x = Due.network(2, 1, 540);
            x.lay(0, 1);
            due.is("an open chain", x.lost(0), 0);
            x.report(0, 24, false);
            due.is("a lost one", x.lost(0), 1);
            x.lay(0, 1);
            x.report(0, 24, true);
            due.is("a delivered one", x.lost(0), 1);
            x.setQuality(0, 0, 0);
            x.simulate(0, 50, 1, 1);
            due.is("by simulate()", x.lost(0), 51);
            x.update(0);
            due.is("an update does not matter", x.lost(0), 51);
            due.is("lost(1)", x.lost(1), 0);
        });
        station(s, "lost", "BAD if there is no such station", BAD, RetryChains::lost);
    }

    private static void queued(Sentences s) {
        s.in("Promise 37");
        s.said("Returns the number; BAD");
        s.holds("Returns how many frames are in the queue of a station", due -> {
            RetryChains x = Due.network(2, 1, 540);
            for (int frame = 1; frame <= 8; frame++) {
                x.enqueue(1, 1);
                due.is("queued(1)", x.queued(1), frame);
            }
            x.enqueue(1, 1);
            due.is("a ninth one was refused", x.queued(1), 8);
            due.is("queued(0)", x.queued(0), 0);
            for (int left = 7; left >= 0; left--) {
                x.report(x.dispatch(), 1, true);
                due.is("queued(1)", x.queued(1), left);
            }
            x.lay(1, 1);
            due.is("a chain without a queue", x.queued(1), 0);
        });
        station(s, "queued", "BAD if there is no such station", BAD, RetryChains::queued);
    }

    private static void deficit(Sentences s) {
        s.in("Promise 38");
        s.said("Returns the deficit of a station");
        s.holds("Returns the deficit, which can be negative", due -> {
            RetryChains x = Due.network(2, 1, 540);
            x.lay(0, 1200);
            x.report(0, 1, true);
            due.is("deficit(0)", x.deficit(0), -327);
            x.lay(0, 1200);
            x.report(0, 2, true);
            due.is("deficit(0)", x.deficit(0), -327 - 726);
            due.is("deficit(1)", x.deficit(1), 0);
            x.enqueue(0, 1);
            x.dispatch();
            due.is("deficit(0)", x.deficit(0), 4000 - 1053);
            RetryChains y = Due.network(1, 1, 540);
            y.lay(0, 1);
            y.pass(5000);
            due.is("pass() does not matter", y.deficit(0), 0);
        });
        station(s, "deficit", "Integer.MIN_VALUE if there is no such station", MIN, RetryChains::deficit);
    }

    private static void inFallback(Sentences s) {
        s.in("Promise 39");
        s.said("Tells whether a station is in fallback");
        s.holds("Returns 1 or 0", due -> {
            RetryChains x = Due.network(2, 1, 540);
            due.row("inFallback", x::inFallback, 0, 0);
            Due.tries(x, 1, 0, 0, 0, 0);
            due.row("inFallback", x::inFallback, 0, 1);
            Due.tries(x, 1, 0, 0);
            due.row("inFallback", x::inFallback, 0, 1);
            Due.tries(x, 1, 0, 1);
            due.row("inFallback", x::inFallback, 0, 0);
        });
        station(s, "inFallback", "BAD if there is no such station", BAD, RetryChains::inFallback);
    }

    private static void time(Sentences s) {
        s.in("Promise 40");
        s.said("Returns the time.");
        s.holds("Returns the present time", due -> {
            RetryChains x = new RetryChains();
            due.is("at first", x.time(), 0);
            x.pass(MAX);
            due.is("the last one", x.time(), MAX);
            x.undo();
            due.is("undone", x.time(), 0);
            x.addRate(1, 540);
            x.addStation();
            x.lay(0, 1200);
            due.is("laying takes no time", x.time(), 0);
            x.report(0, 1, true);
            due.is("a try does", x.time(), 327);
            x.update(0);
            due.is("an update does not", x.time(), 327);
        });
    }
}
