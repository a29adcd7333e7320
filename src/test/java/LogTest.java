import java.util.ArrayList;
import java.util.List;

/** Promises 45 to 53. */
public final class LogTest {
    private static final int BAD = Due.BAD, STATE = Due.STATE, NONE = Due.NONE;
    private static final Due due = new Due("LogTest");

    public static void main(String[] args) {
        emptyLog();
        fullLog();
        saveAndRestore();
        undo();
        undoBringsAllBack();
        actsAndOthers();
        digest();
        due.end();
    }

    private static void eventIs(RetryChains x, int k, int kind, int station, int rate, int time) {
        due.promise("46");
        due.is("eventKind(" + k + ")", x.eventKind(k), kind);
        due.promise("47");
        due.is("eventStation(" + k + ")", x.eventStation(k), station);
        due.promise("48");
        due.is("eventRate(" + k + ")", x.eventRate(k), rate);
        due.promise("49");
        due.is("eventTime(" + k + ")", x.eventTime(k), time);
    }

    private static void emptyLog() {
        RetryChains x = new RetryChains();
        due.promise("45");
        due.is("events()", x.events(), 0);
        eventIs(x, -1, BAD, BAD, BAD, BAD);
        eventIs(x, Integer.MIN_VALUE, BAD, BAD, BAD, BAD);
        eventIs(x, 0, NONE, NONE, NONE, NONE);
        eventIs(x, Integer.MAX_VALUE, NONE, NONE, NONE, NONE);
    }

    /** Fallback begins and ends, of one station after the other; from the 21st event on the oldest is forgotten. */
    private static void fullLog() {
        RetryChains x = Due.network(2, 1, 540);
        x.setBudget(100);
        List<int[]> told = new ArrayList<>();
        for (int round = 0; round < 12; round++) {
            int station = round / 3 % 2;
            for (int loss = 0; loss < 3; loss++) {
                x.lay(station, 100);
                x.report(0, 4, false);
            }
            told.add(0, new int[] {3, station, NONE, x.time()});
            if (round == 0 || round == 10) {
                logIs(x, told);
            }
            x.lay(station, 100);
            x.report(0, 1, true);
            told.add(0, new int[] {4, station, NONE, x.time()});
            if (round == 9 || round == 11) {
                logIs(x, told);
            }
        }
    }

    private static void logIs(RetryChains x, List<int[]> told) {
        due.promise("45");
        due.is("events()", x.events(), told.size());
        for (int k = 0; k < 21; k++) {
            int[] event = k < Math.min(20, told.size()) ? told.get(k) : new int[] {NONE, NONE, NONE, NONE};
            eventIs(x, k, event[0], event[1], event[2], event[3]);
        }
    }

    private static void saveAndRestore() {
        due.promise("50");
        RetryChains x = Due.network(1, 1, 540);
        due.is("save(-1)", x.save(-1), BAD);
        due.is("save(2)", x.save(2), BAD);
        x.pass(123);
        due.is("save(1)", x.save(1), 123);
        long saved = x.digest();
        x.enqueue(0, 10);
        x.pass(1);
        due.is("save(0)", x.save(0), 124);
        long other = x.digest();
        due.is("undo(): save is no act", x.undo(), 4);
        x.addStation();
        x.lay(0, 10);
        due.promise("51");
        due.is("restore(-1)", x.restore(-1), BAD);
        due.is("restore(2)", x.restore(2), BAD);
        due.is("restore(1)", x.restore(1), 123);
        due.is("digest()", x.digest(), saved);
        due.is("undo()", x.undo(), STATE);
        x.enqueue(0, 10);
        x.enqueue(0, 10);
        due.is("undo()", x.undo(), 1);
        due.is("restore(1) again", x.restore(1), 123);
        due.is("digest()", x.digest(), saved);
        due.is("restore(0)", x.restore(0), 124);
        due.is("digest()", x.digest(), other);
        x.pass(1);
        due.promise("50");
        due.is("save(0) over the other", x.save(0), 125);
        x.pass(1);
        due.promise("52");
        due.is("undo() keeps the saved states", x.undo(), 1);
        due.is("undo()", x.undo(), 0);
        due.promise("51");
        due.is("restore(0)", x.restore(0), 125);
        due.is("restore(0) of a new object", new RetryChains().restore(0), STATE);
    }

    private static void undo() {
        due.promise("52");
        RetryChains x = new RetryChains();
        due.is("undo()", x.undo(), STATE);
        for (int time = 1; time <= 7; time++) {
            x.pass(1);
        }
        for (int left = 4; left >= 0; left--) {
            due.is("undo()", x.undo(), left);
            due.is("time()", x.time(), left + 2);
        }
        due.is("undo()", x.undo(), STATE);
        due.is("time()", x.time(), 2);
        for (int round = 0; round < 9; round++) {
            x.pass(1);
            x.pass(1);
            due.is("undo()", x.undo(), Math.min(round + 1, 4));
        }
        due.is("time()", x.time(), 11);
    }

    private static void undoBringsAllBack() {
        RetryChains x = Due.network(1, 1, 240, 1, 240, 1, 60, 1, 540);
        x.setShare(50);
        x.lay(0, 1);
        x.lay(0, 1);
        due.is("kind(1): the first draw is 2", x.kind(1), 1);
        due.is("refusal(0, 0)", x.refusal(0, 0), NONE);
        x.undo();
        due.is("refusal(0, 0)", x.refusal(0, 0), 1);
        due.is("kind(1)", x.kind(1), BAD);
        x.setShare(40);
        x.undo();
        x.setBudget(777);
        x.undo();
        x.setWeight(7);
        x.undo();
        x.setInterval(7777);
        x.undo();
        x.allow(0, 0, false);
        x.undo();
        x.setQuality(0, 0, 7);
        x.undo();
        due.is("setQuality(0, 0, 7)", x.setQuality(0, 0, 7), 500);
        due.is("setInterval(7777)", x.setInterval(7777), 1000000);
        due.is("setWeight(7)", x.setWeight(7), 25);
        due.is("setBudget(777)", x.setBudget(777), 6000);
        due.is("allow(0, 0, true)", x.allow(0, 0, true), 1);
        due.is("lay(0, 1)", x.lay(0, 1), 1);
        due.is("kind(1): the draw is the same", x.kind(1), 1);
        undoOfUpdate();
        undoOfChains();
        undoOfLosses();
        undoOfDispatch();
    }

    /** Another chain in the same place is taken out of it again. */
    private static void undoOfChains() {
        RetryChains x = Due.network(1, 1, 240, 1, 240, 1, 60, 1, 540);
        x.setShare(50);
        x.lay(0, 100);
        x.lay(0, 100);
        due.is("tag(1): a sampling chain", x.tag(1), 1202);
        x.report(1, 1, true);
        due.is("lay(0, 200)", x.lay(0, 200), 1);
        due.is("tag(1): a plain chain", x.tag(1), 800);
        x.undo();
        x.undo();
        due.is("kind(1)", x.kind(1), 1);
        due.is("tag(1)", x.tag(1), 1202);
        due.is("entryTries(1, 1)", x.entryTries(1, 1), 1);
        x.report(0, 1, true);
        x.undo();
        due.is("kind(0)", x.kind(0), 0);
        due.is("tag(0)", x.tag(0), 400);
        due.is("entryRate(0, 1)", x.entryRate(0, 1), 1);
    }

    private static void undoOfLosses() {
        RetryChains x = Due.network(1, 1, 540);
        x.setBudget(100);
        for (int loss = 0; loss < 4; loss++) {
            x.lay(0, 100);
        }
        x.report(0, 4, false);
        x.report(1, 4, false);
        x.undo();
        due.is("two losses", x.report(1, 4, false) > 0 ? x.inFallback(0) : BAD, 0);
        due.is("the third loss", x.report(2, 4, false) > 0 ? x.inFallback(0) : BAD, 1);
        x.undo();
        due.is("inFallback(0)", x.inFallback(0), 0);
        due.is("the third loss", x.report(3, 4, false) > 0 ? x.inFallback(0) : BAD, 1);
    }

    private static void undoOfDispatch() {
        RetryChains x = Due.network(2, 0, 10);
        for (int frame = 0; frame < 3; frame++) {
            x.enqueue(0, 1200 + frame);
            x.enqueue(1, 1300 + frame);
        }
        x.dispatch();
        x.report(0, 1, true);
        due.is("deficit(0)", x.deficit(0), -5919);
        for (int round = 0; round < 2; round++) {
            due.is("dispatch()", x.dispatch(), 0);
            due.is("it is the turn of station 0 first", x.deficit(0), -1919);
            due.is("stationOf(0)", x.stationOf(0), 1);
            due.is("tag(0)", x.tag(0), 5201);
            due.is("queued(1)", x.queued(1), 2);
            x.undo();
        }
    }

    private static void undoOfUpdate() {
        RetryChains x = Due.network(1, 1, 540, 1, 240);
        x.setWeight(10);
        Due.teach(x, 0, 1, 2);
        int events = x.events();
        due.is("eventKind(0)", x.eventKind(0), 5);
        x.undo();
        due.is("events()", x.events(), events - 1);
        due.is("eventKind(0)", x.eventKind(0), NONE);
        due.is("role(0, 0)", x.role(0, 0), 0);
        due.is("estimate(0, 1)", x.estimate(0, 1), NONE);
        due.is("update(0)", x.update(0), 1);
        due.is("estimate(0, 1)", x.estimate(0, 1), 32768);
        Due.teach(x, 0, 1, 0);
        due.is("estimate(0, 1)", x.estimate(0, 1), 29491);
        x.undo();
        x.update(0);
        due.is("the tendency is undone, too", x.estimate(0, 1), 29491);
        Due.teach(x, 0, 1, 0);
        due.is("a sudden change", x.estimate(0, 1), 0);
    }

    /** Each act makes one more state to go back to; questions and errors make none. */
    private static void actsAndOthers() {
        RetryChains x = new RetryChains();
        x.save(0);
        for (int act = 0; act < 15; act++) {
            x.restore(0);
            x.addRate(1, 540);
            x.addStation();
            x.enqueue(0, 1);
            x.lay(0, 1);
            x.restore(act % 2 == 0 ? 0 : 2);
            x.restore(0);
            x.addRate(1, 540);
            x.addStation();
            x.enqueue(0, 1);
            int chain = act == 8 ? x.lay(0, 1) : 0;
            x.save(1);
            x.restore(1);
            act(x, act, chain);
            due.is("undo() after act " + act, x.undo(), 0);
        }
        questionsAreNoActs();
    }

    private static void act(RetryChains x, int which, int chain) {
        switch (which) {
            case 0: x.addRate(0, 10); break;
            case 1: x.addStation(); break;
            case 2: x.allow(0, 0, true); break;
            case 3: x.setShare(10); break;
            case 4: x.setWeight(25); break;
            case 5: x.setInterval(100000); break;
            case 6: x.setBudget(6000); break;
            case 7: x.lay(0, 1); break;
            case 8: x.report(chain, 1, true); break;
            case 9: x.enqueue(0, 1); break;
            case 10: x.dispatch(); break;
            case 11: x.pass(0); break;
            case 12: x.update(0); break;
            case 13: x.setQuality(0, 0, 500); break;
            default: x.simulate(0, 1, 1, 1); break;
        }
    }

    private static void questionsAreNoActs() {
        RetryChains x = new RetryChains();
        x.addRate(1, 540);
        x.addStation();
        x.lay(0, 100);
        long before = x.digest();
        x.addRate(1, 9);
        x.allow(0, 1, true);
        x.setShare(51);
        x.setWeight(0);
        x.setInterval(999);
        x.setBudget(99);
        x.lay(1, 1);
        x.enqueue(0, 0);
        x.dispatch();
        x.report(1, 1, true);
        x.pass(-1);
        x.update(1);
        x.setQuality(0, 0, 1001);
        x.simulate(0, 0, 1, 1);
        x.forecast(0, 5, 100, 1);
        x.oracle(0, 100);
        x.bestChain(0, 100, 0);
        x.expectedTime(0);
        x.save(0);
        x.restore(1);
        due.is("digest()", x.digest(), before);
        due.is("undo()", x.undo(), 2);
    }

    private static void digest() {
        due.promise("53");
        RetryChains x = new RetryChains();
        due.is("digest() of a new object", x.digest(), byWords(x, 0, 0));
        x = Due.network(2, 1, 540, 1, 240, 1, 60);
        Due.teach(x, 1, 1, 3, 0);
        x.setShare(50);
        x.enqueue(1, 10);
        x.enqueue(1, 10);
        x.dispatch();
        x.lay(0, 100);
        x.lay(0, 100);
        x.report(1, 1, true);
        due.is("sampled(0)", x.sampled(0), 1);
        due.is("queued(1)", x.queued(1), 1);
        due.is("digest()", x.digest(), byWords(x, 2, 3));
        Due.tries(x, 1, 0, 0, 0, 0);
        x.lay(1, 100);
        due.is("digest()", x.digest(), byWords(x, 2, 3));
        Due.allowOnly(x, 1, 0);
        due.is("digest() without roles", x.digest(), byWords(x, 2, 3));
    }

    private static long byWords(RetryChains x, int stations, int rates) {
        long h = 17;
        h = 31 * h + x.time();
        h = 31 * h + x.events();
        for (int s = 0; s < stations; s++) {
            int[] counts = {x.chains(s), x.sampled(s), x.delivered(s), x.lost(s), x.queued(s), x.deficit(s),
                x.inFallback(s), x.role(s, 0), x.role(s, 1), x.role(s, 2), x.role(s, 3)};
            for (int v : counts) {
                h = 31 * h + v;
            }
            for (int r = 0; r < rates; r++) {
                h = 31 * h + x.estimate(s, r);
                h = 31 * h + x.triesOf(s, r);
                h = 31 * h + x.successesOf(s, r);
            }
        }
        for (int c = 0; c < 6; c++) {
            h = 31 * h + x.kind(c);
        }
        return h;
    }
}
