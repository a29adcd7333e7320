import java.util.function.Consumer;
import java.util.function.Supplier;
import java.util.function.ToLongFunction;

/** The sentences under THE LOG and ERRORS. */
final class ErrorSentences {
    private static final int BAD = Due.BAD, STATE = Due.STATE, FULL = Due.FULL, OVERFLOW = Due.OVERFLOW, NONE = Due.NONE;
    private static final int MAX = Integer.MAX_VALUE, MIN = Integer.MIN_VALUE;

    private ErrorSentences() {
    }

    static void hold(Sentences s) {
        log(s);
        kinds(s);
        errors(s);
        order(s);
        s.holds("A call that returns an error changes nothing", due -> {
            wrongArguments(due);
            wrongQuestions(due);
            wrongStates(due);
        });
        acts(s);
        history(s);
    }

    /** Fallback begins or ends, one after the other. */
    private static void log(RetryChains x, int events) {
        for (int event = 0; event < events; event++) {
            int frames = x.inFallback(0) == 1 ? 1 : 3;
            for (int frame = 0; frame < frames; frame++) {
                x.lay(0, 1);
                x.report(0, frames == 1 ? 1 : 4, frames == 1);
            }
        }
    }

    private static RetryChains logged(int events) {
        RetryChains x = Due.network(1, 1, 540);
        x.setBudget(100);
        log(x, events);
        return x;
    }

    private static void log(Sentences s) {
        s.in("THE LOG");
        s.holds("The log keeps the latest 20 events", due -> {
            for (int count : new int[] {0, 1, 19, 20, 21, 39, 40, 41}) {
                RetryChains x = logged(count);
                due.is("events()", x.events(), count);
                int kept = Math.min(20, count);
                for (int k = 0; k < kept; k++) {
                    due.is(count + " events: eventKind(" + k + ")", x.eventKind(k), (count - k) % 2 == 1 ? 3 : 4);
                }
                due.is(count + " events: eventKind(" + kept + ")", x.eventKind(kept), NONE);
                due.is(count + " events: eventTime(" + kept + ")", x.eventTime(kept), NONE);
                if (kept > 1) {
                    int time = logged(count - kept + 1).eventTime(0);
                    due.is(count + " events: the oldest one", x.eventTime(kept - 1), time);
                }
            }
        });
        s.holds("an event has a kind, a station, a rate (NONE for the kinds 2 to 4) and the time", due -> {
            RetryChains x = Due.network(3, 1, 540, 1, 240);
            Due.teach(x, 2, 0, 1);
            Due.teach(x, 2, 1, 1);
            Due.tries(x, 2, 0, 0);
            Due.tries(x, 2, 1, 0);
            x.update(2);
            x.pass(5);
            x.update(2);
            due.row("eventKind", x::eventKind, 4, 3, 2, NONE);
            due.row("eventStation", x::eventStation, 2, 2, 2, NONE);
            due.row("eventRate", x::eventRate, NONE, NONE, NONE, NONE);
            due.row("eventTime", x::eventTime, x.time(), x.time() - 5, x.time() - 5, NONE);
            Due.teach(x, 1, 1, 1);
            due.is("kind 5 has a rate", x.eventRate(0), 1);
            due.is("eventStation(0)", x.eventStation(0), 1);
        });
        s.said("The kinds:");
    }

    private static void kinds(Sentences s) {
        s.holds("1 sudden change", due -> {
            RetryChains x = Due.network(1, 1, 540);
            Due.teach(x, 0, 0, 1);
            Due.teach(x, 0, 0, 0);
            Due.teach(x, 0, 0, 0);
            due.row("eventKind", x::eventKind, 1, NONE);
        });
        s.holds("2 collapse", due -> {
            RetryChains x = Due.network(1, 1, 540, 1, 240);
            Due.teach(x, 0, 0, 1);
            Due.teach(x, 0, 1, 1);
            Due.tries(x, 0, 0, 0);
            Due.teach(x, 0, 1, 0);
            due.row("eventKind", x::eventKind, 3, 2, NONE);
        });
        s.holds("3 fallback begins", due -> {
            RetryChains x = logged(1);
            due.row("eventKind", x::eventKind, 3, NONE);
        });
        s.holds("4 fallback ends", due -> {
            RetryChains x = logged(2);
            due.row("eventKind", x::eventKind, 4, 3, NONE);
        });
        s.holds("5 a new first rate", due -> {
            RetryChains x = Due.network(1, 1, 540, 1, 240);
            Due.teach(x, 0, 1, 1);
            due.row("eventKind", x::eventKind, 5, NONE);
        });
    }

    private static void errors(Sentences s) {
        s.in("ERRORS");
        s.said("as described at the methods");
        s.holds("BAD (-1): an argument is out of range or names something that does not exist", due -> {
            due.is("BAD", RetryChains.BAD, -1);
            RetryChains x = Due.network(3, 1, 540, 1, 240);
            x.lay(0, 1);
            due.bad("update", x::update, -1, 3, 4, MIN, MAX);
            due.bad("estimate", rate -> x.estimate(0, rate), -1, 2, 8, MIN, MAX);
            due.bad("kind", x::kind, -1, 1, 6, MIN, MAX);
            due.bad("lay", size -> x.lay(0, size), 0, 4001, -1, MIN, MAX);
        });
        s.holds("STATE (-2), FULL (-3)", due -> {
            due.is("STATE", RetryChains.STATE, -2);
            due.is("lay", Due.network(1).lay(0, 1), -2);
            due.is("FULL", RetryChains.FULL, -3);
            due.is("addStation", Due.network(4).addStation(), -3);
        });
        s.holds("OVERFLOW (-4): a number would be greater than 2147483647", due -> {
            due.is("OVERFLOW", RetryChains.OVERFLOW, -4);
            RetryChains x = Due.network(1, 1, 540);
            Due.teach(x, 0, 0, 1);
            due.is("65536 * 8 * 4095 = 2146959360", x.throughput(0, 0, 4095), 2146959360 / x.airTime(0, 4095));
            due.is("65536 * 8 * 4096 = 2147483648", x.throughput(0, 0, 4096), -4);
            due.is("pass to 2147483647", x.pass(MAX - x.time()), MAX);
            due.is("pass to 2147483648", x.pass(1), -4);
        });
        s.holds("NONE (-9) is not an error: there is no such thing", due -> {
            due.is("NONE", RetryChains.NONE, -9);
            RetryChains x = Due.network(1);
            due.is("role", x.role(0, 0), -9);
            due.is("dispatch()", x.dispatch(), -9);
            due.is("eventKind(0)", x.eventKind(0), -9);
        });
        s.said("NONE (-9) is not an error:");
    }

    /** 8 rates, 4 stations, 6 open chains, 8 frames in a queue, and the end of time is near. */
    private static RetryChains full() {
        RetryChains x = Due.network(4, 1, 540, 1, 240, 1, 60, 1, 540, 1, 240, 1, 60, 0, 10, 2, 10);
        for (int chain = 0; chain < 6; chain++) {
            x.lay(chain % 3, 1200);
        }
        for (int frame = 0; frame < 8; frame++) {
            x.enqueue(0, 1 + frame);
        }
        x.pass(MAX - 1);
        return x;
    }

    private static void order(Sentences s) {
        s.holds("Each method names its errors in the order in which they are checked; the first that applies is returned",
            due -> {
            RetryChains x = full();
            for (int rate = 0; rate < 8; rate++) {
                x.allow(3, rate, false);
            }
            due.is("addRate: BAD before FULL", x.addRate(3, 10), BAD);
            due.is("addRate", x.addRate(2, 10), FULL);
            due.is("lay: BAD before STATE", x.lay(3, 0), BAD);
            due.is("lay: STATE before FULL", x.lay(3, 1), STATE);
            due.is("lay", x.lay(0, 1), FULL);
            due.is("enqueue: BAD before FULL", x.enqueue(0, 4001), BAD);
            due.is("enqueue", x.enqueue(0, 4000), FULL);
            due.is("report: BAD before OVERFLOW", x.report(0, 1, false), BAD);
            due.is("report", x.report(0, 1, true), OVERFLOW);
            due.is("pass: BAD before OVERFLOW", x.pass(-1), BAD);
            due.is("pass", x.pass(2), OVERFLOW);
            simulations(due, "simulate", frames -> x.simulate((int) frames[0], (int) frames[1], 1, 1));
            simulations(due, "forecast", frames -> x.forecast((int) frames[0], (int) frames[1], 1, 1));
            due.is("simulate: FULL before OVERFLOW", x.simulate(0, 1, 1, 1), FULL);
            due.is("forecast: FULL before OVERFLOW", x.forecast(0, 1, 1, 1), FULL);
            due.is("restore: BAD before STATE", x.restore(2), BAD);
            due.is("restore", x.restore(1), STATE);
            RetryChains late = Due.network(1, 1, 540);
            late.pass(MAX);
            due.is("simulate", late.simulate(0, 1, 1, 1), OVERFLOW);
            due.is("forecast", late.forecast(0, 1, 1, 1), OVERFLOW);
        });
        s.holds("and NONE only if none of them applies", due -> {
            RetryChains x = Due.network(1);
            due.is("role", x.role(0, 4), BAD);
            due.is("refusal", x.refusal(0, 3), BAD);
            due.is("rateOfMode", x.rateOfMode(3, 5), BAD);
            due.is("rateOfMode", x.rateOfMode(0, -1), BAD);
            due.is("bestOfMode", x.bestOfMode(0, 3), BAD);
            due.is("bestOfMode", x.bestOfMode(1, 0), BAD);
            due.is("bestChain", x.bestChain(0, 1, 4), BAD);
            due.is("bestChain", x.bestChain(0, 4001, 0), BAD);
            due.is("oracle", x.oracle(0, 0), BAD);
            due.is("mostUsed", x.mostUsed(1), BAD);
            due.is("eventRate", x.eventRate(-1), BAD);
            RetryChains y = full();
            due.is("throughput", y.throughput(0, 0, 0), BAD);
            due.is("throughput of too much, but without an estimate", y.throughput(0, 0, 65535), NONE);
            for (int rate = 0; rate < 8; rate++) {
                y.allow(0, rate, false);
            }
            due.is("dispatch", y.dispatch(), FULL);
        });
    }

    private static void simulations(Due due, String what, ToLongFunction<long[]> simulate) {
        due.is(what + ": BAD before STATE", simulate.applyAsLong(new long[] {3, 51}), BAD);
        due.is(what + ": STATE before FULL", simulate.applyAsLong(new long[] {3, 1}), STATE);
        due.is(what + ": BAD before FULL", simulate.applyAsLong(new long[] {0, 0}), BAD);
    }

    private static void refused(Due due, String what, ToLongFunction<RetryChains> call, int error) {
        Twins.noTrace(due, what, ErrorSentences::savedAndTravelled, call, error);
    }

    private static RetryChains savedAndTravelled() {
        RetryChains x = Twins.travelled();
        x.save(1);
        x.pass(3);
        x.enqueue(0, 306);
        return x;
    }

    private static void wrongArguments(Due due) {
        refused(due, "addRate(3, 10)", x -> x.addRate(3, 10), BAD);
        refused(due, "addRate(0, 10001)", x -> x.addRate(0, 10001), BAD);
        refused(due, "allow(2, 0, false)", x -> x.allow(2, 0, false), BAD);
        refused(due, "allow(0, 4, false)", x -> x.allow(0, 4, false), BAD);
        refused(due, "setShare(51)", x -> x.setShare(51), BAD);
        refused(due, "setWeight(101)", x -> x.setWeight(101), BAD);
        refused(due, "setInterval(999)", x -> x.setInterval(999), BAD);
        refused(due, "setBudget(99)", x -> x.setBudget(99), BAD);
        refused(due, "lay(2, 1)", x -> x.lay(2, 1), BAD);
        refused(due, "lay(0, 4001)", x -> x.lay(0, 4001), BAD);
        refused(due, "enqueue(2, 1)", x -> x.enqueue(2, 1), BAD);
        refused(due, "enqueue(0, 0)", x -> x.enqueue(0, 0), BAD);
        refused(due, "report(5, 1, true)", x -> x.report(5, 1, true), BAD);
        refused(due, "report(2, 0, true)", x -> x.report(2, 0, true), BAD);
        refused(due, "report(2, 1, false)", x -> x.report(2, 1, false), BAD);
        refused(due, "report(2, 29, true)", x -> x.report(2, 29, true), BAD);
        refused(due, "pass(-1)", x -> x.pass(-1), BAD);
        refused(due, "update(2)", x -> x.update(2), BAD);
        refused(due, "setQuality(0, 0, 1001)", x -> x.setQuality(0, 0, 1001), BAD);
        refused(due, "setQuality(0, 4, 1)", x -> x.setQuality(0, 4, 1), BAD);
        refused(due, "simulate(0, 51, 1, 1)", x -> x.simulate(0, 51, 1, 1), BAD);
        refused(due, "simulate(0, 1, 4001, 1)", x -> x.simulate(0, 1, 4001, 1), BAD);
        refused(due, "simulate(2, 1, 1, 1)", x -> x.simulate(2, 1, 1, 1), BAD);
        refused(due, "forecast(0, 0, 1, 1)", x -> x.forecast(0, 0, 1, 1), BAD);
        refused(due, "save(2)", x -> x.save(2), BAD);
        refused(due, "restore(-1)", x -> x.restore(-1), BAD);
    }

    private static void wrongQuestions(Due due) {
        refused(due, "questions about no chain", x -> x.kind(5) + x.stationOf(6) + x.entryRate(5, 0) + x.entryTries(2, 4)
            + x.tag(5) + x.deliveryChance(-1) + x.expectedTime(6), -7);
        refused(due, "questions about no rate", x -> x.estimate(0, 4) + x.triesOf(2, 0) + x.successesOf(0, -1)
            + x.airTime(4, 1) + x.throughput(0, 0, 0) + x.role(0, 4) + x.refusal(0, 3) + x.rateOfMode(0, -1)
            + x.bestOfMode(0, 3) + x.mostUsed(2) + x.bestChain(0, 1, 4), -11);
        refused(due, "questions about no station", x -> x.chains(2) + x.sampled(2) + x.delivered(2) + x.lost(2)
            + x.queued(2) + x.inFallback(2) + x.oracle(2, 1), -7);
        refused(due, "deficit(2)", x -> x.deficit(2), MIN);
        refused(due, "questions about no event", x -> x.eventKind(-1) + x.eventStation(-1) + x.eventRate(-1)
            + x.eventTime(-1), -4);
        refused(due, "throughput(1, 0, 65535)", x -> x.throughput(1, 0, 65535), OVERFLOW);
    }

    private static void refusedIn(Due due, String what, Consumer<RetryChains> before, ToLongFunction<RetryChains> call,
            int error) {
        Supplier<RetryChains> made = () -> {
            RetryChains x = savedAndTravelled();
            before.accept(x);
            return x;
        };
        Twins.noTrace(due, what, made, call, error);
    }

    private static void wrongStates(Due due) {
        Consumer<RetryChains> forbid = x -> Due.allowOnly(x, 0, 0);
        Consumer<RetryChains> allOpen = x -> {
            while (x.lay(0, 50) >= 0) {
                x.pass(1);
            }
        };
        Consumer<RetryChains> late = x -> x.pass(MAX - x.time() - 1);
        refusedIn(due, "lay: STATE", forbid, x -> x.lay(0, 1), STATE);
        refusedIn(due, "simulate: STATE", forbid, x -> x.simulate(0, 1, 1, 1), STATE);
        refusedIn(due, "forecast: STATE", forbid, x -> x.forecast(0, 1, 1, 1), STATE);
        refusedIn(due, "restore: STATE", x -> { }, x -> x.restore(0), STATE);
        refusedIn(due, "undo: STATE", x -> x.restore(1), RetryChains::undo, STATE);
        refusedIn(due, "lay: FULL", allOpen, x -> x.lay(1, 1), FULL);
        refusedIn(due, "dispatch: FULL", allOpen, RetryChains::dispatch, FULL);
        refusedIn(due, "simulate: FULL", allOpen, x -> x.simulate(1, 1, 1, 1), FULL);
        refusedIn(due, "forecast: FULL", allOpen, x -> x.forecast(1, 1, 1, 1), FULL);
        refusedIn(due, "enqueue: FULL", x -> {
            while (x.enqueue(1, 7) < 8) {
                x.pass(1);
            }
        }, x -> x.enqueue(1, 8), FULL);
        refusedIn(due, "addRate: FULL", x -> {
            while (x.addRate(1, 70) < 7) {
                x.pass(1);
            }
        }, x -> x.addRate(1, 71), FULL);
        refusedIn(due, "addStation: FULL", x -> {
            x.addStation();
            x.addStation();
        }, RetryChains::addStation, FULL);
        refusedIn(due, "report: OVERFLOW", late, x -> x.report(2, 1, true), OVERFLOW);
        refusedIn(due, "pass: OVERFLOW", late, x -> x.pass(2), OVERFLOW);
        refusedIn(due, "simulate: OVERFLOW", late, x -> x.simulate(0, 1, 1, 1), OVERFLOW);
        refusedIn(due, "forecast: OVERFLOW", late, x -> x.forecast(0, 1, 1, 1), OVERFLOW);
    }

    /** The call adds one state to an empty history, or none. */
    private static void adds(Due due, String what, ToLongFunction<RetryChains> call, boolean isAct) {
        RetryChains x = Twins.travelled();
        x.save(0);
        x.restore(0);
        long before = x.digest();
        due.is(what + " succeeds", call.applyAsLong(x) >= 0 ? 1 : 0, 1);
        due.is("undo() after " + what, x.undo(), isAct ? 0 : STATE);
        if (isAct) {
            due.is("digest() after it", x.digest(), before);
            due.is("undo() again", x.undo(), STATE);
        }
    }

    private static void acts(Sentences s) {
        s.holds("Acts are the successful calls of the methods that are marked (act)", due -> {
            adds(due, "addRate", x -> x.addRate(0, 10), true);
            adds(due, "addStation", RetryChains::addStation, true);
            adds(due, "allow", x -> x.allow(0, 1, false), true);
            adds(due, "allow what is allowed", x -> x.allow(0, 1, true), true);
            adds(due, "setShare", x -> x.setShare(50), true);
            adds(due, "setWeight", x -> x.setWeight(40), true);
            adds(due, "setInterval", x -> x.setInterval(15000), true);
            adds(due, "setBudget", x -> x.setBudget(3000), true);
            adds(due, "lay", x -> x.lay(0, 1), true);
            adds(due, "enqueue", x -> x.enqueue(0, 1), true);
            adds(due, "dispatch", RetryChains::dispatch, true);
            adds(due, "report", x -> x.report(2, 1, true), true);
            adds(due, "pass", x -> x.pass(5), true);
            adds(due, "pass(0)", x -> x.pass(0), true);
            adds(due, "update", x -> x.update(0), true);
            adds(due, "setQuality", x -> x.setQuality(0, 0, 200), true);
            adds(due, "simulate", x -> x.simulate(0, 50, 1, 1), true);
            adds(due, "forecast", x -> x.forecast(0, 50, 1, 1), false);
            adds(due, "save", x -> x.save(1), false);
            adds(due, "restore", x -> x.restore(0), false);
            adds(due, "questions", x -> x.kind(2) + x.tag(2) + x.deliveryChance(2) + x.expectedTime(2) + x.estimate(0, 0)
                + x.airTime(0, 1) + x.throughput(0, 0, 1) + x.role(0, 0) + x.bestChain(0, 1, 1) + x.oracle(0, 1)
                + x.chains(0) + x.time() + x.events() + x.eventTime(0), false);
        });
    }

    private static void history(Sentences s) {
        s.holds("A history of at most 5 states is kept", due -> {
            for (int acts = 0; acts <= 12; acts++) {
                RetryChains x = new RetryChains();
                for (int act = 0; act < acts; act++) {
                    x.pass(1);
                }
                int kept = Math.min(acts, 5);
                for (int left = kept - 1; left >= 0; left--) {
                    due.is("undo() after " + acts + " acts", x.undo(), left);
                }
                due.is("undo() of an empty history", x.undo(), STATE);
                due.is("time()", x.time(), acts - kept);
            }
        });
        s.holds("each act adds the state before it, and if there are 5 already, the oldest one is dropped", due -> {
            RetryChains x = new RetryChains();
            for (int round = 0; round < 9; round++) {
                x.pass(1);
                x.pass(1);
                due.is("undo()", x.undo(), Math.min(round + 1, 4));
                due.is("time()", x.time(), round + 1);
            }
            for (int left = 3; left >= 0; left--) {
                due.is("undo()", x.undo(), left);
                due.is("time()", x.time(), left + 5);
            }
            due.is("undo(): the states before are dropped", x.undo(), STATE);
        });
        s.holds("undo() removes the latest state and restores it", due -> {
            RetryChains x = Due.network(1, 1, 540);
            long[] digests = new long[5];
            for (int act = 0; act < 5; act++) {
                digests[act] = x.digest();
                x.simulate(0, 1 + act, 100, act);
            }
            for (int act = 4; act >= 0; act--) {
                due.is("undo()", x.undo(), act);
                due.is("digest()", x.digest(), digests[act]);
            }
        });
    }
}
