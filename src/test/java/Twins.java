import java.util.ArrayList;
import java.util.List;
import java.util.function.Supplier;
import java.util.function.ToLongFunction;

/** Objects that were made alike have to answer alike, in all that can be asked and in all that they do afterwards. */
final class Twins {
    private Twins() {
    }

    /** Two stations with estimates, queues, open chains of several kinds, losses, events and an open interval. */
    static RetryChains travelled() {
        RetryChains x = new RetryChains();
        x.addRate(1, 240);
        x.addRate(1, 60);
        x.addRate(2, 650);
        x.addRate(0, 55);
        x.setInterval(15000);
        x.addStation();
        x.addStation();
        x.setShare(50);
        x.setWeight(40);
        x.setBudget(3000);
        for (int rate = 0; rate < 4; rate++) {
            x.setQuality(0, rate, 200 + 150 * rate);
            x.setQuality(1, rate, 800 - 200 * rate);
        }
        x.simulate(0, 30, 900, 11);
        x.simulate(1, 30, 700, 12);
        x.enqueue(0, 301);
        x.enqueue(0, 302);
        x.enqueue(1, 303);
        x.enqueue(1, 304);
        x.enqueue(1, 305);
        x.dispatch();
        x.lay(0, 1001);
        x.lay(1, 1002);
        x.lay(1, 1003);
        x.report(0, 2, true);
        lose(x, 1);
        x.lay(0, 1004);
        lose(x, 0);
        return x;
    }

    static void lose(RetryChains x, int chain) {
        x.report(chain, allTries(x, chain), false);
    }

    static int allTries(RetryChains x, int chain) {
        int tries = 0;
        for (int entry = 0; entry < 4; entry++) {
            tries += x.entryTries(chain, entry);
        }
        return tries;
    }

    /** Asks both for all that there is to ask, and for what they do then. */
    static void alike(Due due, String what, RetryChains x, RetryChains y) {
        List<Long> got = portrait(x);
        List<Long> wanted = portrait(y);
        future(x, got);
        future(y, wanted);
        for (int i = 0; i < wanted.size(); i++) {
            due.is(what + ": answer " + i, got.get(i), wanted.get(i));
        }
        due.is(what + ": answers", got.size(), wanted.size());
    }

    /** Both have the same history. */
    private static void sameHistory(Due due, String what, RetryChains x, RetryChains y) {
        for (int state = 0; state < 6; state++) {
            due.is(what + ": undo() afterwards", x.undo(), y.undo());
            due.is(what + ": digest() after undo()", x.digest(), y.digest());
        }
        due.is(what + ": restore(1)", x.restore(1), y.restore(1));
        due.is(what + ": digest() after restore(1)", x.digest(), y.digest());
    }

    /** The call gives this answer and leaves no trace. */
    static void noTrace(Due due, String what, Supplier<RetryChains> made, ToLongFunction<RetryChains> call, long answer) {
        RetryChains x = made.get();
        due.is(what, call.applyAsLong(x), answer);
        alike(due, what, x, made.get());
        x = made.get();
        call.applyAsLong(x);
        sameHistory(due, what, x, made.get());
    }

    private static List<Long> portrait(RetryChains x) {
        List<Long> a = new ArrayList<>();
        a.add(x.digest());
        for (int station = 0; station < 3; station++) {
            for (int k = 0; k < 3; k++) {
                a.add((long) x.refusal(station, k));
                a.add((long) x.bestOfMode(station, k));
            }
            a.add((long) x.bestChain(station, 800, 1));
            a.add((long) x.oracle(station, 800));
        }
        for (int rate = 0; rate < 5; rate++) {
            a.add((long) x.airTime(rate, 1000));
        }
        for (int chain = 0; chain < 6; chain++) {
            a.add((long) x.tag(chain));
            a.add((long) x.stationOf(chain));
            for (int entry = 0; entry < 4 && x.kind(chain) >= 0; entry++) {
                a.add((long) x.entryRate(chain, entry));
                a.add((long) x.entryTries(chain, entry));
            }
            a.add((long) x.deliveryChance(chain));
            a.add((long) x.expectedTime(chain));
        }
        for (int k = 0; k < 20; k++) {
            a.add((long) x.eventKind(k));
            a.add((long) x.eventStation(k));
            a.add((long) x.eventRate(k));
            a.add((long) x.eventTime(k));
        }
        return a;
    }

    /** What cannot be asked shows in what is done next. */
    private static void future(RetryChains x, List<Long> a) {
        for (int station = 0; station < 2; station++) {
            a.add((long) x.lay(station, 100));
            a.add((long) x.refusal(station, 0));
            a.add((long) x.inFallback(station));
            lose(x, (int) (long) a.get(a.size() - 3));
            a.add((long) x.inFallback(station));
        }
        for (int frame = 0; frame < 3; frame++) {
            a.add((long) x.dispatch());
            int chain = (int) (long) a.get(a.size() - 1);
            a.add((long) x.tag(chain));
            a.add((long) x.report(chain, 1, true));
        }
        a.add((long) x.pass(2000));
        a.add(x.digest());
        a.add((long) x.simulate(0, 20, 500, 8));
        a.add((long) x.update(1));
        a.add(x.digest());
        a.add((long) x.setShare(1));
        a.add((long) x.setWeight(1));
        a.add((long) x.setInterval(1000));
        a.add((long) x.setBudget(100));
        for (int rate = 0; rate < 4; rate++) {
            a.add((long) x.setQuality(0, rate, 1));
            a.add((long) x.allow(0, rate, true));
        }
        a.add((long) x.addRate(1, 100));
        a.add((long) x.addStation());
        a.add((long) x.lay(2, 30));
        a.add(x.digest());
    }
}
