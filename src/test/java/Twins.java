import java.util.ArrayList;
import java.util.List;
import java.util.function.Supplier;
import java.util.function.ToLongFunction;

/** Objects that were made alike have to answer alike, in all that can be asked and in all that they do afterwards. */
final class Twins {
    /** So many ways there are to go astray. */
    static final int WAYS = 10;

    private Twins() {
    }

    /** Two stations with estimates, queues, open chains of several kinds, losses, events and an open interval. */
    static RetryChains travelled() {
        RetryChains x = new RetryChains();
        x.addRate(1, 240);
        x.addRate(1, 60);
        x.addRate(2, 650);
        x.addRate(0, 55);
        x.setInterval(15000);
        x.addStation();
        x.addStation();
        x.setShare(50);
        x.setWeight(40);
        x.setBudget(3000);
        for (int rate = 0; rate < 4; rate++) {
            x.setQuality(0, rate, 200 + 150 * rate);
            x.setQuality(1, rate, 800 - 200 * rate);
        }
        x.simulate(0, 30, 900, 11);
        x.simulate(1, 30, 700, 12);
        x.enqueue(0, 301);
        x.enqueue(0, 302);
        x.enqueue(1, 303);
        x.enqueue(1, 304);
        x.enqueue(1, 305);
        x.dispatch();
        x.lay(0, 1001);
        x.lay(1, 1002);
        x.lay(1, 1003);
        x.report(0, 2, true);
        lose(x, 1);
        x.lay(0, 1004);
        lose(x, 0);
        x.lay(1, 105);
        lose(x, 0);
        return x;
    }

    static void lose(RetryChains x, int chain) {
        x.report(chain, allTries(x, chain), false);
    }

    static int allTries(RetryChains x, int chain) {
        int tries = 0;
        for (int entry = 0; entry < 4; entry++) {
            tries += x.entryTries(chain, entry);
        }
        return tries;
    }

    /** Up to five acts that change something each; answers how many there were. */
    static int astray(RetryChains x, int way) {
        switch (way) {
            case 0:
                x.addRate(0, 10);
                x.addStation();
                x.allow(0, 2, false);
                x.setShare(3);
                x.setWeight(99);
                return 5;
            case 1:
                x.setInterval(1000);
                x.setBudget(100);
                x.setQuality(0, 0, 1);
                x.enqueue(0, 999);
                x.dispatch();
                return 5;
            case 2:
                x.lay(1, 77);
                x.report(3, 1, true);
                x.pass(40000);
                x.update(1);
                x.simulate(0, 50, 2000, 4);
                return 5;
            case 3:
                x.setQuality(0, 0, 0);
                x.setQuality(0, 1, 0);
                x.setQuality(0, 2, 0);
                x.setQuality(0, 3, 0);
                x.simulate(0, 4, 500, 4);
                return 5;
            case 4:
                lose(x, 3);
                x.lay(0, 5);
                x.lay(0, 6);
                x.report(0, 1, true);
                x.lay(1, 7);
                return 5;
            case 5:
                x.dispatch();
                x.dispatch();
                x.dispatch();
                x.enqueue(0, 3);
                x.enqueue(1, 4);
                return 5;
            case 6:
                // other chains in the places of those that are open
                x.report(2, 1, true);
                x.report(3, 1, true);
                x.lay(0, 8);
                x.lay(0, 9);
                x.lay(0, 10);
                return 5;
            case 7:
                x.report(2, 1, true);
                x.report(3, 1, true);
                x.simulate(0, 40, 4000, 1);
                x.simulate(1, 40, 4000, 2);
                x.simulate(0, 40, 4000, 3);
                return 5;
            case 8:
                x.update(0);
                x.update(1);
                x.dispatch();
                x.report(2, 1, true);
                x.report(3, 1, true);
                return 5;
            default:
                for (int act = 0; act < 5; act++) {
                    x.simulate(act % 2, 20, 400, act);
                }
                return 5;
        }
    }

    /** Asks both for all that there is to ask, and for what they do then. */
    static void alike(Due due, String what, RetryChains x, RetryChains y) {
        List<Long> got = portrait(x);
        List<Long> wanted = portrait(y);
        future(x, got);
        future(y, wanted);
        for (int i = 0; i < wanted.size(); i++) {
            due.is(what + ": answer " + i, got.get(i), wanted.get(i));
        }
        due.is(what + ": answers", got.size(), wanted.size());
    }

    /** Both have the same history. */
    private static void sameHistory(Due due, String what, RetryChains x, RetryChains y) {
        for (int state = 0; state < 6; state++) {
            due.is(what + ": undo() afterwards", x.undo(), y.undo());
            due.is(what + ": digest() after undo()", x.digest(), y.digest());
        }
        due.is(what + ": restore(1)", x.restore(1), y.restore(1));
        due.is(what + ": digest() after restore(1)", x.digest(), y.digest());
    }

    /** The call gives this answer and leaves no trace. */
    static void noTrace(Due due, String what, Supplier<RetryChains> made, ToLongFunction<RetryChains> call, long answer) {
        RetryChains x = made.get();
        due.is(what, call.applyAsLong(x), answer);
        alike(due, what, x, made.get());
        x = made.get();
        call.applyAsLong(x);
        sameHistory(due, what, x, made.get());
    }

    private static List<Long> portrait(RetryChains x) {
        List<Long> a = new ArrayList<>();
        a.add(x.digest());
        for (int station = 0; station < 3; station++) {
            for (int k = 0; k < 3; k++) {
                a.add((long) x.refusal(station, k));
                a.add((long) x.bestOfMode(station, k));
            }
            a.add((long) x.bestChain(station, 800, 1));
            a.add((long) x.oracle(station, 800));
        }
        for (int rate = 0; rate < 5; rate++) {
            a.add((long) x.airTime(rate, 1000));
        }
        for (int chain = 0; chain < 6; chain++) {
            a.add((long) x.tag(chain));
            a.add((long) x.stationOf(chain));
            for (int entry = 0; entry < 4 && x.kind(chain) >= 0; entry++) {
                a.add((long) x.entryRate(chain, entry));
                a.add((long) x.entryTries(chain, entry));
            }
            a.add((long) x.deliveryChance(chain));
            a.add((long) x.expectedTime(chain));
        }
        for (int k = 0; k < 20; k++) {
            a.add((long) x.eventKind(k));
            a.add((long) x.eventStation(k));
            a.add((long) x.eventRate(k));
            a.add((long) x.eventTime(k));
        }
        return a;
    }

    /** What cannot be asked shows in what is done next. */
    private static void future(RetryChains x, List<Long> a) {
        a.add(x.digest());
        int dispatched = x.dispatch();
        a.add((long) x.tag(dispatched));
        a.add(x.digest());
        // few tries for each frame, so that no interval ends between the losses
        a.add((long) x.setBudget(100));
        for (int loss = 0; loss < 6; loss++) {
            int station = 1 - loss % 2;
            int chain = x.lay(station, 100);
            a.add((long) chain);
            a.add((long) x.refusal(station, 0));
            lose(x, chain);
            a.add((long) x.inFallback(station));
        }
        a.add((long) x.setBudget(2500));
        a.add(x.digest());
        a.add((long) x.report(dispatched, 1, true));
        for (int frame = 0; frame < 3; frame++) {
            int chain = x.dispatch();
            a.add((long) chain);
            a.add((long) x.tag(chain));
            a.add((long) x.report(chain, 1, true));
        }
        a.add((long) x.update(0));
        a.add((long) x.pass(2000));
        a.add(x.digest());
        a.add((long) x.simulate(0, 20, 500, 8));
        a.add((long) x.update(1));
        a.add(x.digest());
        a.add((long) x.setShare(1));
        a.add((long) x.setWeight(1));
        a.add((long) x.setInterval(1000));
        a.add((long) x.setBudget(100));
        for (int rate = 0; rate < 4; rate++) {
            a.add((long) x.setQuality(0, rate, 1));
            a.add((long) x.setQuality(1, rate, 1));
            a.add((long) x.allow(0, rate, true));
            a.add((long) x.allow(1, rate, true));
        }
        a.add((long) x.addRate(1, 100));
        a.add((long) x.addStation());
        a.add((long) x.lay(2, 30));
        a.add(x.digest());
    }
}
