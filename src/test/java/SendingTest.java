/** Promises 9 to 13. */
public final class SendingTest {
    private static final int BAD = Due.BAD, STATE = Due.STATE, FULL = Due.FULL, OVERFLOW = Due.OVERFLOW, NONE = Due.NONE;
    private static final int MAX = Integer.MAX_VALUE;
    private static final Due due = new Due("SendingTest");

    public static void main(String[] args) {
        layErrors();
        plainChain();
        samplingChain();
        candidateOfSameTime();
        fallbackChain();
        enqueue();
        dispatch();
        dispatchByDeficits();
        report();
        reportErrors();
        fallbackByLosses();
        deficitHasAnEnd();
        pass();
        due.end();
    }

    private static void chainIs(RetryChains x, int chain, int kind, int... rates) {
        due.is("kind", x.kind(chain), kind);
        for (int entry = 0; entry < rates.length; entry++) {
            due.is("entryRate(" + chain + ", " + entry + ")", x.entryRate(chain, entry), rates[entry]);
        }
    }

    private static void triesAre(RetryChains x, int chain, int... tries) {
        for (int entry = 0; entry < tries.length; entry++) {
            due.is("entryTries(" + chain + ", " + entry + ")", x.entryTries(chain, entry), tries[entry]);
        }
    }

    private static void refusalIs(RetryChains x, int reason, int cause, int causeOfCause) {
        due.is("refusal(0, 0)", x.refusal(0, 0), reason);
        due.is("refusal(0, 1)", x.refusal(0, 1), cause);
        due.is("refusal(0, 2)", x.refusal(0, 2), causeOfCause);
    }

    private static void layErrors() {
        due.promise("9");
        RetryChains x = Due.network(2, 1, 240);
        due.is("lay(-1, 100)", x.lay(-1, 100), BAD);
        due.is("lay(2, 100)", x.lay(2, 100), BAD);
        due.is("lay(0, 0)", x.lay(0, 0), BAD);
        due.is("lay(0, 4001)", x.lay(0, 4001), BAD);
        for (int chain = 0; chain < 6; chain++) {
            due.is("lay(0, ..)", x.lay(0, chain % 2 == 0 ? 1 : 4000), chain);
        }
        due.is("a seventh chain", x.lay(1, 100), FULL);
        x.allow(1, 0, false);
        due.is("STATE goes before FULL", x.lay(1, 100), STATE);
        due.is("BAD goes before STATE", x.lay(1, 0), BAD);
        due.is("chains(1)", x.chains(1), 0);
        x.report(4, 1, true);
        x.report(2, 1, true);
        due.is("the smallest free number", x.lay(0, 100), 2);
        due.is("the next free number", x.lay(0, 100), 4);
        due.is("chains(0)", x.chains(0), 8);
    }

    private static void plainChain() {
        RetryChains x = Due.network(1, 1, 60, 1, 120, 1, 240, 0, 10, 1, 540);
        Due.teach(x, 0, 2, 2);
        Due.teach(x, 0, 4, 2);
        Due.teach(x, 0, 1, 1);
        // the values are 649924, 1209872 and 640528; surest is 1, slowest 3
        due.is("lay(0, 1200)", x.lay(0, 1200), 0);
        chainIs(x, 0, 0, 4, 2, 1, 3);
        triesAre(x, 0, 5, 5, 4, 1);
        x.update(0);
        x.allow(0, 4, false);
        chainIs(x, 0, 0, 4, 2, 1, 3);
        triesAre(x, 0, 5, 5, 4, 1);
    }

    private static void samplingChain() {
        // the first draw of station 0 is 16838, of 4 rates candidate 2
        RetryChains x = Due.network(1, 1, 240, 1, 240, 1, 60, 1, 540);
        x.setShare(50);
        x.setBudget(10000);
        x.lay(0, 1200);
        chainIs(x, 0, 0, 0, 1, 0, 2);
        refusalIs(x, 1, NONE, NONE);
        x.lay(0, 1200);
        // 2 is slower than first, and the role slowest is no obstacle
        chainIs(x, 1, 1, 0, 2, 0, 2);
        triesAre(x, 1, 6, 1, 6, 4);
        refusalIs(x, NONE, NONE, NONE);
        due.is("sampled(0)", x.sampled(0), 1);
        x.lay(0, 1200);
        refusalIs(x, 1, NONE, NONE);
        // the second draw is 1103515245 * 1103527590 + 12345 = -1828053547 (int), 37642, of 4 rates 2
        x.lay(0, 1200);
        chainIs(x, 3, 1, 0, 2, 0, 2);
        refusals();
    }

    private static RetryChains beforeFirstDraw(int... rates) {
        RetryChains x = Due.network(1, rates);
        x.setShare(0);
        x.setBudget(100);
        return x;
    }

    private static void refusals() {
        int[] rates = {1, 240, 1, 240, 1, 60, 1, 540};
        RetryChains x = beforeFirstDraw(rates);
        x.lay(0, 100);
        x.report(0, 4, false);
        x.setShare(50);
        x.lay(0, 100);
        refusalIs(x, 2, 14, NONE);
        chainIs(x, 0, 0, 0, 1, 0, 2);

        x = beforeFirstDraw(rates);
        Due.teach(x, 0, 2, 1);
        Due.teach(x, 0, 0, 1);
        Due.teach(x, 0, 1, 1);
        Due.tries(x, 0, 2, 1);
        x.setShare(50);
        x.lay(0, 100);
        refusalIs(x, 2, 13, NONE);

        x = beforeFirstDraw(rates);
        Due.teach(x, 0, 2, 1, 1, 1, 1, 1, 1, 1, 1, 1, 1, 1, 1, 1, 1, 1, 1, 1, 1, 2);
        Due.teach(x, 0, 0, 1);
        Due.teach(x, 0, 1, 1);
        due.is("estimate(0, 2)", x.estimate(0, 2), 62259);
        x.setShare(50);
        x.lay(0, 100);
        refusalIs(x, 2, 13, NONE);

        // tried, but no slower than surest
        x = beforeFirstDraw(1, 240, 1, 240, 1, 240, 1, 60);
        Due.tries(x, 0, 2, 1);
        x.setShare(50);
        x.lay(0, 100);
        chainIs(x, 0, 1, 2, 0, 0, 3);

        x = beforeFirstDraw(rates);
        Due.teach(x, 0, 2, 1);
        x.allow(0, 2, false);
        x.setShare(50);
        x.lay(0, 100);
        refusalIs(x, 2, 11, NONE);
        due.is("sampled(0)", x.sampled(0), 0);

        x = beforeFirstDraw(rates);
        Due.teach(x, 0, 2, 1);
        x.setShare(50);
        x.lay(0, 100);
        due.is("a first chain is not in the share", x.refusal(0, 0), 2);
        refusalIs(x, 2, 12, 21);

        x = beforeFirstDraw(rates);
        Due.teach(x, 0, 2, 4);
        Due.teach(x, 0, 0, 1);
        x.setShare(50);
        x.lay(0, 100);
        refusalIs(x, 2, 12, 22);

        x = beforeFirstDraw(rates);
        Due.teach(x, 0, 2, 1);
        Due.teach(x, 0, 0, 2);
        Due.teach(x, 0, 1, 2);
        x.setShare(50);
        x.lay(0, 100);
        refusalIs(x, 2, 12, 23);
        chainIs(x, 0, 0, 0, 1, 2, 2);
    }

    private static void candidateOfSameTime() {
        RetryChains x = beforeFirstDraw(1, 60, 1, 60, 1, 60, 0, 10);
        x.lay(0, 500);
        x.setShare(50);
        x.setBudget(6000);
        x.lay(0, 500);
        chainIs(x, 1, 1, 2, 0, 0, 3);
        triesAre(x, 1, 1, 5, 5, 1);
        x = beforeFirstDraw(1, 60, 1, 120, 1, 55, 1, 540);
        x.lay(0, 500);
        x.setShare(50);
        x.lay(0, 500);
        chainIs(x, 1, 1, 0, 2, 0, 2);
        // the share counts this chain, and the sampling chains with one more
        x = Due.network(1, 1, 240, 1, 240, 1, 60, 1, 540);
        x.setShare(34);
        x.lay(0, 1);
        x.lay(0, 1);
        due.is("100 > 2 * 34", x.refusal(0, 0), 1);
        x.lay(0, 1);
        due.is("100 <= 3 * 34", x.kind(2), 1);
        x = Due.network(1, 1, 240, 1, 240, 1, 60, 1, 540);
        x.setShare(33);
        x.lay(0, 1);
        x.lay(0, 1);
        x.lay(0, 1);
        due.is("100 > 3 * 33", x.refusal(0, 0), 1);
        // a plain chain in the place of a sampling one has all its tries
        x.setShare(50);
        due.is("lay(0, 1)", x.lay(0, 1), 3);
        due.is("kind(3)", x.kind(3), 1);
        x.report(3, 1, true);
        x.setShare(0);
        due.is("lay(0, 1)", x.lay(0, 1), 3);
        chainIs(x, 3, 0, 0, 1, 0, 2);
        triesAre(x, 3, 6, 6, 6, 6);
        due.is("tag(3)", x.tag(3), 4);
        // station 1 begins to draw at 8: its first draw is 3634, of 5 rates candidate 4
        x = Due.network(2, 1, 240, 1, 240, 1, 60, 1, 540, 1, 540);
        x.setShare(50);
        x.lay(1, 1);
        x.lay(1, 1);
        chainIs(x, 1, 1, 4, 0, 0, 2);
    }

    private static void fallbackChain() {
        RetryChains x = Due.network(1, 1, 240, 1, 540, 1, 60);
        Due.teach(x, 0, 0, 2);
        Due.teach(x, 0, 1, 3);
        Due.tries(x, 0, 1, 0, 0, 0);
        due.is("inFallback(0)", x.inFallback(0), 1);
        x.setShare(50);
        int before = x.chains(0);
        x.lay(0, 700);
        chainIs(x, 0, 2, 0, 2, 2, 2);
        triesAre(x, 0, 5, 4, 4, 4);
        due.is("chains(0)", x.chains(0), before + 1);
        due.is("sampled(0)", x.sampled(0), 0);
        refusalIs(x, NONE, NONE, NONE);
    }

    private static void enqueue() {
        due.promise("10");
        RetryChains x = Due.network(1, 1, 240);
        due.is("enqueue(1, 1)", x.enqueue(1, 1), BAD);
        due.is("enqueue(-1, 1)", x.enqueue(-1, 1), BAD);
        due.is("enqueue(0, 0)", x.enqueue(0, 0), BAD);
        due.is("enqueue(0, 4001)", x.enqueue(0, 4001), BAD);
        x.allow(0, 0, false);
        for (int frame = 1; frame <= 8; frame++) {
            due.is("enqueue", x.enqueue(0, frame == 1 ? 4000 : frame), frame);
        }
        due.is("a ninth frame", x.enqueue(0, 1), FULL);
        due.is("a ninth frame, wrong", x.enqueue(0, 0), BAD);
        x.allow(0, 0, true);
        int[] tags = {16000, 8, 12, 16, 20, 24};
        for (int chain = 0; chain < 6; chain++) {
            x.dispatch();
            due.is("the queue keeps its order", x.tag(chain), tags[chain]);
        }
        x.report(2, 1, true);
        x.report(4, 1, true);
        due.is("dispatch()", x.dispatch(), 2);
        due.is("dispatch()", x.dispatch(), 4);
        due.is("tag(2)", x.tag(2), 28);
        due.is("tag(4): the last frame", x.tag(4), 32);
        due.is("queued(0)", x.queued(0), 0);
    }

    private static void dispatch() {
        due.promise("11");
        RetryChains x = Due.network(3, 1, 240);
        due.is("no frame", x.dispatch(), NONE);
        due.is("undo(): NONE is no act", x.undo(), 4);
        x.addStation();
        x.enqueue(2, 100);
        x.allow(2, 0, false);
        due.is("no allowed rate", x.dispatch(), NONE);
        x.allow(2, 0, true);
        x.enqueue(2, 200);
        due.is("dispatch()", x.dispatch(), 0);
        due.is("stationOf(0)", x.stationOf(0), 2);
        due.is("tag(0)", x.tag(0), 402);
        due.is("queued(2)", x.queued(2), 1);
        due.is("chains(2)", x.chains(2), 1);
        due.is("deficit(2)", x.deficit(2), 4000);
        due.is("deficit(0)", x.deficit(0), 0);
        due.is("undo(): dispatch is an act", x.undo(), 4);
        due.is("queued(2)", x.queued(2), 2);
        due.is("deficit(2)", x.deficit(2), 0);
        for (int chain = 0; chain < 6; chain++) {
            x.lay(0, 1);
        }
        due.is("6 chains are open", x.dispatch(), FULL);
        x.allow(2, 0, false);
        due.is("FULL goes before NONE", x.dispatch(), FULL);
    }

    private static void dispatchByDeficits() {
        RetryChains x = Due.network(3, 0, 10);
        for (int frame = 0; frame < 4; frame++) {
            x.enqueue(0, 1200);
            x.enqueue(2, 100);
        }
        x.dispatch();
        due.is("deficit(2)", x.deficit(2), 4000);
        due.is("stationOf(0)", x.stationOf(0), 0);
        x.dispatch();
        due.is("the turn stays", x.stationOf(1), 0);
        due.is("deficit(0)", x.deficit(0), 4000);
        due.is("report(0, 1, true)", x.report(0, 1, true), 9919);
        due.is("deficit(0)", x.deficit(0), -5919);
        x.dispatch();
        due.is("stationOf(0)", x.stationOf(0), 2);
        due.is("deficit(0)", x.deficit(0), -1919);
        due.is("deficit(2)", x.deficit(2), 4000);
        due.is("report(0, 4, true)", x.report(0, 4, true), 1119 + 1191 + 1335 + 1623);
        due.is("deficit(2)", x.deficit(2), -1268);
        // 2 gets 2732, 0 gets 2081, 1 is not ready, 2 is chosen
        x.dispatch();
        due.is("stationOf(0)", x.stationOf(0), 2);
        due.is("deficit(0)", x.deficit(0), 2081);
        due.is("deficit(2)", x.deficit(2), 2732);
        due.is("deficit(1)", x.deficit(1), 0);
        RetryChains y = Due.network(2, 0, 10);
        for (int chain = 0; chain < 8; chain++) {
            y.lay(0, 4000);
            y.report(0, 4, true);
        }
        y.enqueue(0, 1);
        due.is("a deficit of a million", y.dispatch(), 0);
        due.is("deficit(0)", y.deficit(0), 4000);
        smallDeficits();
    }

    /** At 918 bytes three tries take 1237 + 1309 + 1453 = 3999. */
    private static void smallDeficits() {
        RetryChains x = Due.network(2, 0, 80);
        for (int frame = 0; frame < 3; frame++) {
            x.enqueue(0, 918);
            x.enqueue(1, 918);
        }
        x.dispatch();
        due.is("report(0, 3, true)", x.report(0, 3, true), 3999);
        due.is("deficit(0)", x.deficit(0), 1);
        x.dispatch();
        due.is("a deficit of 1 is enough", x.stationOf(0), 0);
        x = Due.network(2, 0, 80);
        x.setBudget(100);
        for (int frame = 0; frame < 3; frame++) {
            x.enqueue(0, 681);
            x.enqueue(1, 918);
        }
        x.dispatch();
        due.is("report(0, 4, true): 252 + 681 + 67 each", x.report(0, 4, true), 4000);
        due.is("deficit(0)", x.deficit(0), 0);
        x.dispatch();
        due.is("a deficit of 0 is not", x.stationOf(0), 1);
        due.is("deficit(0)", x.deficit(0), 4000);
    }

    private static void report() {
        due.promise("12");
        // at 1200 bytes 0 takes 551, 623, 767, 1055, 1631; 1 takes 327, 399, 543, 831, 1407; 2 takes 1751, 1823
        RetryChains x = Due.network(2, 1, 240, 1, 540, 1, 60);
        x.setBudget(2000);
        x.lay(0, 1200);
        due.is("entryTries(0, 0)", x.entryTries(0, 0), 3);
        due.is("entryTries(0, 1)", x.entryTries(0, 1), 3);
        due.is("entryTries(0, 2)", x.entryTries(0, 2), 3);
        due.is("entryTries(0, 3)", x.entryTries(0, 3), 1);
        due.is("report(0, 4, true)", x.report(0, 4, true), 551 + 623 + 767 + 327);
        due.is("time()", x.time(), 2268);
        due.is("deficit(0)", x.deficit(0), -2268);
        due.is("deficit(1)", x.deficit(1), 0);
        due.is("kind(0)", x.kind(0), BAD);
        due.is("triesOf(0, 0)", x.triesOf(0, 0), 3);
        due.is("successesOf(0, 0)", x.successesOf(0, 0), 0);
        due.is("triesOf(0, 1)", x.triesOf(0, 1), 1);
        due.is("successesOf(0, 1)", x.successesOf(0, 1), 1);
        due.is("triesOf(1, 0)", x.triesOf(1, 0), 0);
        due.is("delivered(0)", x.delivered(0), 1);
        x.lay(0, 1200);
        due.is("entry 2 begins with try 0", x.report(0, 7, true), 1941 + 1269 + 551);
        due.is("successesOf(0, 0)", x.successesOf(0, 0), 1);
        due.is("triesOf(0, 0)", x.triesOf(0, 0), 7);
        x.lay(0, 1200);
        due.is("report(0, 10, false)", x.report(0, 10, false), 1941 + 1269 + 1941 + 1751);
        due.is("triesOf(0, 2)", x.triesOf(0, 2), 1);
        due.is("successesOf(0, 2)", x.successesOf(0, 2), 0);
        due.is("lost(0)", x.lost(0), 1);
        due.is("delivered(0)", x.delivered(0), 2);
        due.is("update(0)", x.update(0), 3);
        due.is("estimate(0, 0) = 65536 / 13", x.estimate(0, 0), 5041);
        due.is("estimate(0, 1) = 65536 / 7", x.estimate(0, 1), 65536 / 7);
        due.is("estimate(0, 2)", x.estimate(0, 2), 0);
        sameRateTwice();
    }

    private static void sameRateTwice() {
        RetryChains x = Due.network(1, 1, 540);
        x.setBudget(726);
        x.lay(0, 1200);
        due.is("report(0, 3, true)", x.report(0, 3, true), 327 + 399 + 327);
        due.is("triesOf(0, 0)", x.triesOf(0, 0), 3);
        due.is("successesOf(0, 0)", x.successesOf(0, 0), 1);
        x.pass(1000000 - x.time() - 327);
        x.lay(0, 1200);
        x.report(0, 1, true);
        due.is("the interval ends with the report", x.estimate(0, 0), 32768);
    }

    private static void reportErrors() {
        RetryChains x = Due.network(1, 1, 540);
        x.setBudget(726);
        due.is("report(0, 1, true), not open", x.report(0, 1, true), BAD);
        x.lay(0, 1200);
        due.is("report(-1, 1, true)", x.report(-1, 1, true), BAD);
        due.is("report(6, 1, true)", x.report(6, 1, true), BAD);
        due.is("report(1, 1, true)", x.report(1, 1, true), BAD);
        due.is("report(0, 0, true)", x.report(0, 0, true), BAD);
        due.is("report(0, 9, true)", x.report(0, 9, true), BAD);
        due.is("report(0, 9, false)", x.report(0, 9, false), BAD);
        due.is("report(0, 7, false)", x.report(0, 7, false), BAD);
        x.pass(MAX - 2903);
        due.is("too late", x.report(0, 8, false), OVERFLOW);
        due.is("BAD goes before OVERFLOW", x.report(0, 9, true), BAD);
        due.is("kind(0)", x.kind(0), 0);
        due.is("triesOf(0, 0)", x.triesOf(0, 0), 0);
        due.is("time()", x.time(), MAX - 2903);
        due.is("fewer tries are in time", x.report(0, 7, true), 2505);
        x.lay(0, 1200);
        x.pass(MAX - x.time() - 327);
        due.is("report(0, 1, true)", x.report(0, 1, true), 327);
        due.is("time()", x.time(), MAX);
    }

    private static void fallbackByLosses() {
        RetryChains x = Due.network(2, 1, 540);
        Due.tries(x, 0, 0, 0, 0);
        Due.tries(x, 1, 0, 0);
        due.is("two losses", x.inFallback(0), 0);
        Due.tries(x, 0, 0, 1, 0, 0);
        due.is("losses not in succession", x.inFallback(0), 0);
        due.is("events()", x.events(), 0);
        Due.tries(x, 0, 0, 0);
        due.is("three losses in succession", x.inFallback(0), 1);
        due.is("inFallback(1)", x.inFallback(1), 0);
        due.is("events()", x.events(), 1);
        due.is("eventKind(0)", x.eventKind(0), 3);
        due.is("eventStation(0)", x.eventStation(0), 0);
        due.is("eventRate(0)", x.eventRate(0), NONE);
        due.is("eventTime(0)", x.eventTime(0), x.time());
        Due.tries(x, 0, 0, 0, 0, 0, 0);
        due.is("it begins once", x.events(), 1);
        Due.tries(x, 0, 0, 3);
        due.is("inFallback(0)", x.inFallback(0), 0);
        due.is("events()", x.events(), 2);
        due.is("eventKind(0)", x.eventKind(0), 4);
        due.is("eventTime(0)", x.eventTime(0), x.time());
        Due.tries(x, 0, 0, 0, 0);
        x.update(0);
        Due.tries(x, 0, 0, 0, 0);
        due.is("an update forgets losses", x.inFallback(0), 0);
    }

    private static void deficitHasAnEnd() {
        RetryChains x = Due.network(1, 0, 10);
        for (int chain = 0; chain < 7; chain++) {
            x.lay(0, 4000);
            due.is("report(0, 4, true)", x.report(0, 4, true), 129276);
        }
        due.is("deficit(0)", x.deficit(0), -904932);
        x.lay(0, 4000);
        x.report(0, 4, true);
        due.is("not below -1000000", x.deficit(0), -1000000);
    }

    private static void pass() {
        due.promise("13");
        RetryChains x = new RetryChains();
        x.addRate(1, 540);
        x.addStation();
        x.addStation();
        due.is("pass(-1)", x.pass(-1), BAD);
        due.is("pass(0)", x.pass(0), 0);
        due.is("undo(): pass(0) is an act", x.undo(), 3);
        Due.tries(x, 0, 0, 1);
        Due.tries(x, 1, 0, 2);
        int time = x.time();
        due.is("pass", x.pass(99999 - time), 99999);
        due.is("estimate(0, 0)", x.estimate(0, 0), NONE);
        due.is("pass(1)", x.pass(1), 100000);
        due.is("estimate(0, 0)", x.estimate(0, 0), 65536);
        due.is("estimate(1, 0)", x.estimate(1, 0), 32768);
        due.is("pass to the end", x.pass(MAX - 100000), MAX);
        due.is("pass(0)", x.pass(0), MAX);
        due.is("pass(1)", x.pass(1), OVERFLOW);
        due.is("BAD goes first", x.pass(-1), BAD);
        due.is("pass(MAX)", x.pass(MAX), OVERFLOW);
        due.is("addStation() at the end of time", x.addStation(), 2);
        due.is("pass(0): no interval ends", x.pass(0), MAX);
        due.is("update(2)", x.update(2), 0);
        eachIntervalOnce();
    }

    /** Fallback is ended by the update of an interval without tries, so events tell the updates. */
    private static void eachIntervalOnce() {
        RetryChains x = new RetryChains();
        x.addRate(1, 540);
        x.addRate(1, 240);
        x.addStation();
        x.addStation();
        for (int station = 1; station >= 0; station--) {
            Due.teach(x, station, 0, 1);
            Due.teach(x, station, 1, 1);
            Due.tries(x, station, 0, 0);
            Due.tries(x, station, 1, 0);
        }
        due.is("events()", x.events(), 0);
        x.pass(500000);
        due.is("events(): one update each", x.events(), 4);
        due.is("eventStation(3)", x.eventStation(3), 0);
        due.is("eventKind(3)", x.eventKind(3), 2);
        due.is("eventStation(0)", x.eventStation(0), 1);
        due.is("eventKind(0)", x.eventKind(0), 3);
        due.is("inFallback(0)", x.inFallback(0), 1);
        int late = x.time();
        x.pass(99999);
        due.is("events()", x.events(), 4);
        x.pass(1);
        due.is("events()", x.events(), 6);
        due.is("eventKind(1)", x.eventKind(1), 4);
        due.is("eventStation(1)", x.eventStation(1), 0);
        due.is("eventTime(0)", x.eventTime(0), late + 100000);
    }
}
