import java.util.ArrayList;
import java.util.List;

/**
 * Promises 43, 50, 51 and 52 as a whole: an object that went astray and was brought back answers like one that did
 * not, in all that can be asked and in all that it does afterwards.
 */
public final class StateTest {
    private static final int ASTRAY = 7;
    private static final Due due = new Due("StateTest");

    public static void main(String[] args) {
        due.promise("52");
        for (int way = 0; way < ASTRAY; way++) {
            RetryChains x = travelled();
            int acts = astray(x, way);
            for (int act = 0; act < acts; act++) {
                due.is("undo() on way " + way, x.undo(), 4 - act);
            }
            sameAs("way " + way + " undone", x);
        }
        due.promise("51");
        for (int slot = 0; slot < 2; slot++) {
            RetryChains x = travelled();
            x.save(slot);
            for (int way = slot; way < ASTRAY; way += 2) {
                astray(x, way);
            }
            x.restore(slot);
            sameAs("slot " + slot + " restored", x);
        }
        ratesOfTheSavedState();
        due.promise("43");
        forecasts();
        errorsAreNoActs();
        due.end();
    }

    /** Two stations with estimates, queues, open chains of several kinds, losses, events and an open interval. */
    private static RetryChains travelled() {
        RetryChains x = new RetryChains();
        x.addRate(1, 240);
        x.addRate(1, 60);
        x.addRate(2, 650);
        x.addRate(0, 55);
        x.setInterval(15000);
        x.addStation();
        x.addStation();
        x.setShare(50);
        x.setWeight(40);
        x.setBudget(3000);
        for (int rate = 0; rate < 4; rate++) {
            x.setQuality(0, rate, 200 + 150 * rate);
            x.setQuality(1, rate, 800 - 200 * rate);
        }
        x.simulate(0, 30, 900, 11);
        x.simulate(1, 30, 700, 12);
        x.enqueue(0, 301);
        x.enqueue(0, 302);
        x.enqueue(1, 303);
        x.enqueue(1, 304);
        x.enqueue(1, 305);
        x.dispatch();
        x.lay(0, 1001);
        x.lay(1, 1002);
        x.lay(1, 1003);
        x.report(0, 2, true);
        lose(x, 1);
        x.lay(0, 1004);
        lose(x, 0);
        return x;
    }

    private static void lose(RetryChains x, int chain) {
        x.report(chain, allTries(x, chain), false);
    }

    private static int allTries(RetryChains x, int chain) {
        int tries = 0;
        for (int entry = 0; entry < 4; entry++) {
            tries += x.entryTries(chain, entry);
        }
        return tries;
    }

    /** Five acts that change something each. */
    private static int astray(RetryChains x, int way) {
        switch (way) {
            case 0:
                x.addRate(0, 10);
                x.addStation();
                x.allow(0, 2, false);
                x.setShare(3);
                x.setWeight(99);
                return 5;
            case 1:
                x.setInterval(1000);
                x.setBudget(100);
                x.setQuality(0, 0, 1);
                x.enqueue(0, 999);
                x.dispatch();
                return 5;
            case 2:
                x.lay(1, 77);
                x.report(3, 1, true);
                x.pass(40000);
                x.update(1);
                x.simulate(0, 50, 2000, 4);
                return 5;
            case 3:
                x.setQuality(0, 0, 0);
                x.setQuality(0, 1, 0);
                x.setQuality(0, 2, 0);
                x.setQuality(0, 3, 0);
                x.simulate(0, 4, 500, 4);
                return 5;
            case 4:
                lose(x, 3);
                x.lay(0, 5);
                x.lay(0, 6);
                x.report(0, 1, true);
                x.lay(1, 7);
                return 5;
            case 5:
                x.dispatch();
                x.dispatch();
                x.dispatch();
                x.enqueue(0, 3);
                x.enqueue(1, 4);
                return 5;
            default:
                for (int act = 0; act < 5; act++) {
                    x.simulate(act % 2, 20, 400, act);
                }
                return 5;
        }
    }

    private static void sameAs(String what, RetryChains x) {
        RetryChains y = travelled();
        List<Long> got = portrait(x);
        List<Long> wanted = portrait(y);
        future(x, got);
        future(y, wanted);
        for (int i = 0; i < wanted.size(); i++) {
            due.is(what + ": answer " + i, got.get(i), wanted.get(i));
        }
        due.is(what + ": answers", got.size(), wanted.size());
    }

    private static List<Long> portrait(RetryChains x) {
        List<Long> a = new ArrayList<>();
        a.add(x.digest());
        for (int station = 0; station < 3; station++) {
            for (int k = 0; k < 3; k++) {
                a.add((long) x.refusal(station, k));
                a.add((long) x.bestOfMode(station, k));
            }
            a.add((long) x.bestChain(station, 800, 1));
            a.add((long) x.oracle(station, 800));
        }
        for (int rate = 0; rate < 5; rate++) {
            a.add((long) x.airTime(rate, 1000));
        }
        for (int chain = 0; chain < 6; chain++) {
            a.add((long) x.tag(chain));
            a.add((long) x.stationOf(chain));
            for (int entry = 0; entry < 4 && x.kind(chain) >= 0; entry++) {
                a.add((long) x.entryRate(chain, entry));
                a.add((long) x.entryTries(chain, entry));
            }
            a.add((long) x.deliveryChance(chain));
            a.add((long) x.expectedTime(chain));
        }
        for (int k = 0; k < 20; k++) {
            a.add((long) x.eventKind(k));
            a.add((long) x.eventStation(k));
            a.add((long) x.eventRate(k));
            a.add((long) x.eventTime(k));
        }
        return a;
    }

    /** What cannot be asked shows in what is done next. */
    private static void future(RetryChains x, List<Long> a) {
        for (int station = 0; station < 2; station++) {
            a.add((long) x.lay(station, 100));
            a.add((long) x.refusal(station, 0));
            a.add((long) x.inFallback(station));
            lose(x, (int) (long) a.get(a.size() - 3));
            a.add((long) x.inFallback(station));
        }
        for (int frame = 0; frame < 3; frame++) {
            a.add((long) x.dispatch());
            int chain = (int) (long) a.get(a.size() - 1);
            a.add((long) x.tag(chain));
            a.add((long) x.report(chain, 1, true));
        }
        a.add((long) x.pass(2000));
        a.add(x.digest());
        a.add((long) x.simulate(0, 20, 500, 8));
        a.add((long) x.update(1));
        a.add(x.digest());
        a.add((long) x.setShare(1));
        a.add((long) x.setWeight(1));
        a.add((long) x.setInterval(1000));
        a.add((long) x.setBudget(100));
        for (int rate = 0; rate < 4; rate++) {
            a.add((long) x.setQuality(0, rate, 1));
            a.add((long) x.allow(0, rate, true));
        }
        a.add((long) x.addRate(1, 100));
        a.add((long) x.addStation());
        a.add((long) x.lay(2, 30));
        a.add(x.digest());
    }

    private static void ratesOfTheSavedState() {
        RetryChains x = new RetryChains();
        x.addRate(1, 60);
        x.addRate(1, 540);
        x.save(1);
        x.undo();
        x.undo();
        x.addRate(2, 650);
        x.addRate(0, 10);
        x.addStation();
        due.is("role(0, 3)", x.role(0, 3), 1);
        x.restore(1);
        due.is("addStation()", x.addStation(), 0);
        due.is("role(0, 3)", x.role(0, 3), 0);
        due.is("airTime(1, 1200)", x.airTime(1, 1200), 260);
        due.is("rateOfMode(1, 0)", x.rateOfMode(1, 0), 0);
    }

    /** On a channel that is poor enough that frames are lost, in states of all kinds. */
    private static void forecasts() {
        RetryChains x = travelled();
        x.setBudget(300);
        for (int rate = 0; rate < 4; rate++) {
            x.setQuality(0, rate, 60 * rate);
            x.setQuality(1, rate, 200 - 60 * rate);
        }
        int lost = 0;
        for (int round = 0; round < 40; round++) {
            int station = round % 2;
            int n = 1 + round * 7 % 50;
            long before = x.digest();
            int told = x.forecast(station, n, 100 + round, 1000 * round);
            due.is("digest() after forecast", x.digest(), before);
            due.is("simulate as forecast", x.simulate(station, n, 100 + round, 1000 * round), told);
            lost += n - told;
            if (round % 3 == 0) {
                x.undo();
            }
            if (round % 5 == 0) {
                x.pass(9000);
            }
        }
        due.is("frames were lost", lost > 100 ? 1 : 0, 1);
    }

    /** The calls that find an error add nothing to the history. */
    private static void errorsAreNoActs() {
        due.promise("52");
        RetryChains x = new RetryChains();
        for (int rate = 0; rate < 8; rate++) {
            x.addRate(0, 10);
        }
        for (int station = 0; station < 4; station++) {
            x.addStation();
        }
        for (int frame = 0; frame < 8; frame++) {
            x.enqueue(0, 100);
        }
        for (int chain = 0; chain < 6; chain++) {
            x.lay(0, 4000);
        }
        x.save(0);
        x.restore(0);
        x.addRate(1, 20);
        x.addStation();
        x.enqueue(0, 100);
        x.lay(0, 100);
        x.dispatch();
        x.simulate(0, 1, 1, 1);
        x.report(0, 1, false);
        due.is("undo() after FULL and BAD", x.undo(), Due.STATE);
        x.pass(Integer.MAX_VALUE);
        x.save(0);
        x.restore(0);
        x.report(0, 1, true);
        x.pass(1);
        due.is("undo() after OVERFLOW", x.undo(), Due.STATE);
        x = Due.network(1);
        x.save(0);
        x.restore(0);
        x.lay(0, 100);
        x.simulate(0, 1, 1, 1);
        x.enqueue(0, 0);
        x.dispatch();
        due.is("undo() after STATE and NONE", x.undo(), Due.STATE);
        x.addRate(1, 540);
        x.pass(1000000001);
        x.save(0);
        x.restore(0);
        x.simulate(0, 1, 1, 1);
        x.forecast(0, 1, 1, 1);
        x.save(1);
        due.is("undo() after OVERFLOW of simulate", x.undo(), Due.STATE);
    }
}
