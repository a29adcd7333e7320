import java.util.ArrayList;
import java.util.List;
import java.util.function.Consumer;
import java.util.function.IntUnaryOperator;
import java.util.function.ToIntBiFunction;

/** The sentences of the promises 45 to 53. */
final class HistorySentences {
    private static final int BAD = Due.BAD, STATE = Due.STATE, NONE = Due.NONE;
    private static final int MAX = Integer.MAX_VALUE, MIN = Integer.MIN_VALUE;

    private HistorySentences() {
    }

    static void hold(Sentences s) {
        events(s);
        eventKind(s);
        eventStation(s);
        eventRate(s);
        eventTime(s);
        save(s);
        restore(s);
        undo(s);
        digest(s);
    }

    /** Fallback begins and ends, of station 0 and 1 in turns; each row is the kind, the station, the rate, the time. */
    private static RetryChains logged(int events, List<int[]> told) {
        RetryChains x = Due.network(2, 1, 540);
        x.setBudget(100);
        for (int event = 0; event < events; event++) {
            int station = event / 2 % 2;
            boolean begins = event % 2 == 0;
            for (int frame = 0; frame < (begins ? 3 : 1); frame++) {
                x.lay(station, 1);
                x.report(0, begins ? 4 : 1, !begins);
            }
            told.add(0, new int[] {begins ? 3 : 4, station, NONE, x.time()});
        }
        return x;
    }

    /** The log is full, and the next update of station 1 finds a new first rate. */
    private static RetryChains beforeNewFirst(List<int[]> told) {
        RetryChains x = logged(20, told);
        x.addRate(1, 540);
        x.allow(1, 0, false);
        x.lay(1, 1);
        x.report(0, 1, true);
        x.allow(1, 0, true);
        return x;
    }

    /** The log is as told, also the oldest events, which others had taken the place of. */
    private static void logIs(Due due, RetryChains x, List<int[]> told) {
        for (int k = 0; k < 20; k++) {
            int[] event = {x.eventKind(k), x.eventStation(k), x.eventRate(k), x.eventTime(k)};
            for (int column = 0; column < 4; column++) {
                due.is("event " + k + ", column " + column, event[column], told.get(k)[column]);
            }
        }
    }

    private static void events(Sentences s) {
        s.in("Promise 45");
        s.said("Returns the number.");
        s.holds("Returns how many events were logged in all", due -> {
            for (int count : new int[] {0, 1, 19, 20, 21, 45}) {
                RetryChains x = logged(count, new ArrayList<>());
                due.is("events()", x.events(), count);
            }
            RetryChains x = logged(21, new ArrayList<>());
            x.undo();
            due.is("events() after undo()", x.events(), 20);
        });
    }

    private static void number(Sentences s, String sentence, String name, int column,
            ToIntBiFunction<RetryChains, Integer> asked) {
        s.holds(sentence, due -> {
            for (int count : new int[] {1, 2, 20, 21, 33}) {
                List<int[]> told = new ArrayList<>();
                RetryChains x = logged(count, told);
                for (int k = 0; k < Math.min(count, 20); k++) {
                    due.is(name + "(" + k + ") of " + count, asked.applyAsInt(x, k), told.get(k)[column]);
                }
            }
            RetryChains x = logged(3, new ArrayList<>());
            due.range(name, k -> asked.applyAsInt(x, k), 0, MAX);
        });
    }

    private static void noEvent(Sentences s, String name, ToIntBiFunction<RetryChains, Integer> asked) {
        s.holds("BAD if k is negative", due -> {
            RetryChains x = logged(25, new ArrayList<>());
            due.bad(name, k -> asked.applyAsInt(x, k), -1, -20, -9, MIN);
            RetryChains y = new RetryChains();
            due.bad(name + " of an empty log", k -> asked.applyAsInt(y, k), -1, MIN);
        });
        s.holds("NONE if there is no such event in the log", due -> {
            for (int count : new int[] {0, 1, 19, 20, 21, 40}) {
                RetryChains x = logged(count, new ArrayList<>());
                int kept = Math.min(count, 20);
                for (int k : new int[] {kept, kept + 1, 20, 21, 40, MAX}) {
                    due.is(name + "(" + k + ") of " + count, asked.applyAsInt(x, k), NONE);
                }
            }
        });
    }

    private static void eventKind(Sentences s) {
        s.in("Promise 46");
        s.said("Returns the kind of an event");
        number(s, "`k`: 0 for the latest event, 1 for the one before it, and so on, 0 or more", "eventKind", 0,
            RetryChains::eventKind);
        s.holds("Returns the kind, 1 to 5", due -> {
            RetryChains x = Due.network(1, 1, 540, 1, 240);
            Due.teach(x, 0, 1, 2);
            Due.teach(x, 0, 1, 1);
            Due.teach(x, 0, 1, 1);
            Due.teach(x, 0, 0, 1);
            Due.tries(x, 0, 0, 0);
            Due.teach(x, 0, 1, 0);
            x.update(0);
            due.row("eventKind", x::eventKind, 4, 3, 2, 5, 1, 5, NONE);
        });
        noEvent(s, "eventKind", RetryChains::eventKind);
    }

    private static void eventStation(Sentences s) {
        s.in("Promise 47");
        s.said("Returns the station of an event");
        number(s, "`k`: as for eventKind()", "eventStation", 1, RetryChains::eventStation);
        s.holds("Returns the station; BAD", due -> {
            RetryChains x = Due.network(4, 1, 540, 1, 240);
            for (int station : new int[] {3, 0, 2, 1}) {
                Due.teach(x, station, 1, 1);
            }
            due.row("eventStation", x::eventStation, 1, 2, 0, 3, NONE);
        });
        noEvent(s, "eventStation", RetryChains::eventStation);
    }

    private static void eventRate(Sentences s) {
        s.in("Promise 48");
        s.said("Returns the rate of an event");
        number(s, "`k`: as for eventKind()", "eventRate", 2, RetryChains::eventRate);
        s.holds("Returns the rate; BAD", due -> {
            RetryChains x = Due.network(1, 1, 30, 1, 60, 1, 120, 1, 240);
            for (int rate = 1; rate < 4; rate++) {
                Due.teach(x, 0, rate, 1);
            }
            due.row("eventRate of new first ones", x::eventRate, 3, 2, 1, NONE);
            Due.teach(x, 0, 0, 2);
            Due.teach(x, 0, 0, 1);
            Due.teach(x, 0, 0, 1);
            due.is("eventRate(0) of a sudden change", x.eventRate(0), 0);
            due.is("eventKind(0)", x.eventKind(0), 1);
        });
        noEvent(s, "eventRate", RetryChains::eventRate);
        s.holds("or it has no rate", due -> {
            RetryChains x = Due.network(1, 1, 540, 1, 240);
            Due.teach(x, 0, 0, 1);
            Due.teach(x, 0, 1, 1);
            Due.tries(x, 0, 0, 0);
            Due.teach(x, 0, 1, 0);
            x.update(0);
            due.row("eventKind", x::eventKind, 4, 3, 2, NONE);
            due.row("eventRate", x::eventRate, NONE, NONE, NONE, NONE);
        });
    }

    private static void eventTime(Sentences s) {
        s.in("Promise 49");
        s.said("Returns the time of an event");
        number(s, "`k`: as for eventKind()", "eventTime", 3, RetryChains::eventTime);
        s.holds("Returns the time; BAD", due -> {
            RetryChains x = new RetryChains();
            x.addRate(1, 540);
            x.addRate(1, 240);
            x.addStation();
            Due.tries(x, 0, 1, 1);
            x.pass(777777 - x.time());
            due.is("the present time, not the end of the interval", x.eventTime(0), 777777);
            for (int loss = 0; loss < 3; loss++) {
                x.lay(0, 1);
                x.report(0, 24, false);
            }
            due.is("after the tries", x.eventTime(0), x.time());
            x.pass(5);
            due.is("it stays", x.eventTime(0), x.time() - 5);
            x.pass(MAX - x.time());
            due.is("the last time", x.eventTime(0), MAX);
        });
        noEvent(s, "eventTime", RetryChains::eventTime);
    }

    private static void slots(Sentences s, String name, IntUnaryOperator asked) {
        s.holds("`slot`: 0 or 1", due -> due.range(name, asked, 0, 1));
        s.holds("BAD if slot is out of range", due -> due.bad(name, asked, 2, 3, -1, -2, MIN, MAX));
    }

    /** One rate and one station, one try for each entry, no sampling. */
    private static RetryChains plain() {
        RetryChains x = Due.network(2, 1, 540);
        x.setShare(0);
        x.setBudget(100);
        return x;
    }

    private static void frame(RetryChains x, int tries, boolean ok) {
        x.report(x.lay(0, 1), tries, ok);
    }

    private interface Back {
        void bring(RetryChains x, Consumer<RetryChains> acts, int count);
    }

    /** What no method answers shows only in what comes then. */
    private static void hiddenIsBack(Due due, Back back) {
        RetryChains x = plain();
        frame(x, 1, true);
        back.bring(x, y -> frame(y, 4, false), 2);
        x.update(0);
        due.is("tries of the interval", x.estimate(0, 0), 65536);
        back.bring(x, y -> frame(y, 1, true), 2);
        frame(x, 4, true);
        x.update(0);
        due.is("successes of the interval", x.estimate(0, 0), 65536 * 75 / 100 + 16384 * 25 / 100);
        x = plain();
        frame(x, 1, true);
        x.update(0);
        frame(x, 4, false);
        x.update(0);
        back.bring(x, y -> {
            frame(y, 1, true);
            y.update(0);
        }, 3);
        due.is("the first jump", x.estimate(0, 0), 49152);
        frame(x, 4, false);
        x.update(0);
        due.is("the tendency: a second jump", x.estimate(0, 0), 0);
        x = plain();
        frame(x, 4, false);
        frame(x, 4, false);
        back.bring(x, y -> frame(y, 1, true), 2);
        frame(x, 4, false);
        due.is("losses in succession", x.inFallback(0), 1);
        x = plain();
        x.setInterval(1000);
        x.update(0);
        back.bring(x, y -> {
            y.pass(700);
            y.update(0);
        }, 2);
        frame(x, 1, true);
        x.pass(999 - x.time());
        due.is("the end of the interval", x.estimate(0, 0), NONE);
        x.pass(1);
        due.is("the end of the interval", x.estimate(0, 0), 65536);
        hiddenOfChoicesIsBack(due, back);
    }

    private static void hiddenOfChoicesIsBack(Due due, Back back) {
        RetryChains x = plain();
        x.enqueue(0, 1);
        x.enqueue(1, 1);
        x.enqueue(1, 1);
        back.bring(x, y -> {
            y.dispatch();
            y.dispatch();
        }, 2);
        x.enqueue(0, 2);
        x.dispatch();
        x.dispatch();
        due.is("the turn: 0 and again 0", x.stationOf(1), 0);
        due.is("the first frame of the queue", x.tag(0), 4);
        due.is("the second frame of the queue", x.tag(1), 8);
        x = Due.network(1, 1, 240, 1, 240, 1, 240, 1, 240, 1, 240, 1, 240, 1, 240);
        x.setShare(50);
        x.lay(0, 1);
        back.bring(x, y -> {
            y.lay(0, 1);
            y.lay(0, 1);
            y.lay(0, 1);
        }, 3);
        x.lay(0, 1);
        due.is("the draw state: of 7 rates 3", x.tag(1), 12 + 3);
        x = plain();
        back.bring(x, y -> {
            y.setQuality(0, 0, 1);
            y.allow(0, 0, false);
            y.setShare(1);
            y.setWeight(1);
            y.setInterval(1000);
        }, 5);
        back.bring(x, y -> {
            y.setBudget(500);
            y.addRate(0, 10);
            y.addStation();
        }, 3);
        int[] before = {x.setQuality(0, 0, 2), x.allow(0, 0, true), x.setShare(2), x.setWeight(2), x.setInterval(2000),
            x.setBudget(200), x.addRate(0, 10), x.addStation()};
        due.row("settings", i -> before[i], 500, 1, 0, 25, 1000000, 100, 1, 2);
    }

    private static void save(Sentences s) {
        s.in("Promise 50");
        s.holds("Saves everything but the saved states and what can be undone", due -> {
            for (int way = 0; way < Twins.WAYS; way++) {
                for (int slot = 0; slot < 2; slot++) {
                    RetryChains x = Twins.travelled();
                    due.is("save", x.save(slot), x.time());
                    Twins.astray(x, way);
                    due.is("restore", x.restore(slot), Twins.travelled().time());
                    Twins.alike(due, "way " + way + " restored from " + slot, x, Twins.travelled());
                }
            }
            List<int[]> told = new ArrayList<>();
            RetryChains full = beforeNewFirst(told);
            full.save(1);
            full.update(1);
            due.is("another event", full.eventKind(0), 5);
            full.restore(1);
            logIs(due, full, told);
            hiddenIsBack(due, (x, acts, count) -> {
                x.save(count % 2);
                acts.accept(x);
                x.restore(count % 2);
            });
            // what is in the other slot, and what can be undone, is not saved
            RetryChains x = new RetryChains();
            x.pass(1);
            x.save(0);
            x.pass(1);
            x.save(1);
            x.pass(1);
            x.save(0);
            x.restore(1);
            due.is("restore(0)", x.restore(0), 3);
            due.is("undo()", x.undo(), STATE);
            x.pass(1);
            due.is("save(1)", x.save(1), 4);
            due.is("undo(): save() leaves the history", x.undo(), 0);
        });
        slots(s, "save", slot -> new RetryChains().save(slot));
        s.holds("Returns the present time; BAD", due -> {
            RetryChains x = new RetryChains();
            due.is("save(0)", x.save(0), 0);
            x.pass(MAX);
            due.is("save(0)", x.save(0), MAX);
            due.is("save(1)", x.save(1), MAX);
        });
    }

    private static RetryChains saved() {
        RetryChains x = Due.network(1, 1, 540);
        x.save(0);
        x.save(1);
        return x;
    }

    private static void restore(Sentences s) {
        s.in("Promise 51");
        s.holds("Restores what was saved in a slot, which stays saved", due -> {
            RetryChains x = Due.network(1, 1, 540);
            x.pass(7);
            long before = x.digest();
            x.save(1);
            for (int round = 0; round < 3; round++) {
                x.simulate(0, 10, 1, round);
                due.is("restore(1)", x.restore(1), 7);
                due.is("digest()", x.digest(), before);
            }
            x.addStation();
            x.undo();
            x.pass(1);
            due.is("undo()", x.undo(), 0);
            due.is("restore(1)", x.restore(1), 7);
            x.pass(5);
            x.save(0);
            due.is("each slot has its own", x.restore(1), 7);
            due.is("each slot has its own", x.restore(0), 12);
        });
        s.holds("Nothing can be undone then", due -> {
            RetryChains x = Twins.travelled();
            x.save(0);
            due.is("restore(0)", x.restore(0), x.time());
            due.is("undo()", x.undo(), STATE);
            x.pass(1);
            x.pass(1);
            due.is("what comes then can be", x.undo(), 1);
            due.is("undo()", x.undo(), 0);
            due.is("undo()", x.undo(), STATE);
            Twins.alike(due, "restored and undone", x, Twins.travelled());
        });
        slots(s, "restore", slot -> saved().restore(slot));
        s.holds("Returns the present time then", due -> {
            RetryChains x = new RetryChains();
            x.save(0);
            x.pass(MAX);
            x.save(1);
            due.is("restore(0)", x.restore(0), 0);
            due.is("time()", x.time(), 0);
            due.is("restore(1)", x.restore(1), MAX);
            due.is("time()", x.time(), MAX);
        });
        s.holds("STATE if nothing was saved in it", due -> {
            RetryChains x = new RetryChains();
            due.is("restore(0)", x.restore(0), STATE);
            due.is("restore(1)", x.restore(1), STATE);
            x.save(1);
            due.is("restore(0)", x.restore(0), STATE);
            due.is("restore(1)", x.restore(1), 0);
            due.is("restore(0)", x.restore(0), STATE);
            x.save(2);
            due.is("an error saves nothing", x.restore(0), STATE);
        });
    }

    private static void undo(Sentences s) {
        s.in("Promise 52");
        s.said("Undoes the latest act");
        s.holds("the latest state of the history is removed and restored, everything but the saved states", due -> {
            RetryChains x = Twins.travelled();
            x.save(0);
            x.simulate(0, 50, 900, 3);
            x.save(1);
            long later = x.digest();
            x.addRate(0, 10);
            x.save(0);
            due.is("undo()", x.undo(), 4);
            due.is("undo()", x.undo(), 3);
            due.is("what was saved later stays", x.restore(0) >= 0 ? x.rateOfMode(0, 0) : BAD, 4);
            x.restore(1);
            due.is("digest()", x.digest(), later);
            for (int way = 0; way < Twins.WAYS; way++) {
                RetryChains y = Twins.travelled();
                int acts = Twins.astray(y, way);
                for (int act = 0; act < acts; act++) {
                    due.is("undo() on way " + way, y.undo(), 4 - act);
                }
                Twins.alike(due, "way " + way + " undone", y, Twins.travelled());
            }
            List<int[]> told = new ArrayList<>();
            RetryChains full = beforeNewFirst(told);
            full.update(1);
            due.is("another event", full.eventKind(0), 5);
            full.undo();
            logIs(due, full, told);
            hiddenIsBack(due, (z, change, count) -> {
                change.accept(z);
                for (int act = 0; act < count; act++) {
                    z.undo();
                }
            });
        });
        s.holds("Returns how many states the history still has", due -> {
            RetryChains x = new RetryChains();
            for (int act = 0; act < 7; act++) {
                x.setShare(act);
            }
            due.row("undo()", call -> x.undo(), 4, 3, 2, 1, 0, STATE);
            due.is("setShare(9)", x.setShare(9), 1);
        });
        s.holds("STATE if it has none", due -> {
            RetryChains x = new RetryChains();
            due.is("a new object", x.undo(), STATE);
            x.pass(1);
            due.row("undo()", call -> x.undo(), 0, STATE, STATE);
            due.is("time()", x.time(), 0);
            due.is("no errors are undone", x.pass(-1), BAD);
            due.is("undo()", x.undo(), STATE);
        });
    }

    /** The sum as the document has it, from what the other methods answer. */
    private static long hashOf(RetryChains x, int stations, int rates) {
        long h = 17;
        h = 31 * h + x.time();
        h = 31 * h + x.events();
        for (int station = 0; station < stations; station++) {
            int[] counts = {x.chains(station), x.sampled(station), x.delivered(station), x.lost(station), x.queued(station),
                x.deficit(station), x.inFallback(station)};
            for (int count : counts) {
                h = 31 * h + count;
            }
            for (int role = 0; role < 4; role++) {
                h = 31 * h + x.role(station, role);
            }
            for (int rate = 0; rate < rates; rate++) {
                h = 31 * h + x.estimate(station, rate);
                h = 31 * h + x.triesOf(station, rate);
                h = 31 * h + x.successesOf(station, rate);
            }
        }
        for (int chain = 0; chain < 6; chain++) {
            h = 31 * h + x.kind(chain);
        }
        return h;
    }

    private static void digest(Sentences s) {
        s.in("Promise 53");
        s.said("Returns a hash", "Returns the hash");
        s.holds("Starting with h = 17, each of the following values v in order changes h to 31 * h + v (long arithmetic with "
                + "overflow): time(), events()", due -> {
            RetryChains x = new RetryChains();
            long h = 17 * 31 * 31;
            for (int chain = 0; chain < 6; chain++) {
                h = 31 * h - 1;
            }
            due.is("of a new object", x.digest(), h);
            x.pass(MAX);
            due.is("at the end of time", x.digest(), h + 31L * 31 * 31 * 31 * 31 * 31 * 31 * MAX);
            RetryChains y = Twins.travelled();
            due.is("with overflow", y.digest(), hashOf(y, 2, 4));
        });
        s.holds("for each station: chains(), sampled(), delivered(), lost(), queued(), deficit(), inFallback(), role() for 0 to "
                + "3, and for each rate estimate(), triesOf(), successesOf()", due -> {
            for (int stations = 0; stations <= 4; stations++) {
                RetryChains x = Due.network(stations);
                for (int rates = 0; rates <= 8; rates += 4) {
                    due.is("of " + stations + " stations, " + rates + " rates", x.digest(), hashOf(x, stations, rates));
                    for (int rate = 0; rate < 4; rate++) {
                        x.addRate(rate % 3, 100 + rate);
                    }
                    if (stations > 0) {
                        x.setQuality(stations - 1, 0, 90);
                        x.simulate(stations - 1, 20, 500, 4);
                        x.update(stations - 1);
                        x.enqueue(0, 5);
                    }
                }
                due.is("of " + stations + " stations, 8 rates", x.digest(), hashOf(x, stations, 8));
            }
        });
        s.holds("for each number from 0 to 5: kind() of this chain (BAD if it is not open)", due -> {
            RetryChains x = Due.network(1, 1, 240, 1, 240, 1, 240, 1, 240);
            x.setShare(50);
            for (int chain = 0; chain < 6; chain++) {
                due.is("with " + chain + " open chains", x.digest(), hashOf(x, 1, 4));
                x.lay(0, 1);
            }
            due.is("with 6 open chains", x.digest(), hashOf(x, 1, 4));
            x.report(2, 1, true);
            due.is("with a gap", x.digest(), hashOf(x, 1, 4));
        });
    }
}
