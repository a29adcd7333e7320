/** The four examples of the document, as they stand. */
public final class ExamplesTest {
    private static final Due due = new Due("ExamplesTest");

    public static void main(String[] args) {
        plainChain();
        refusedCandidate();
        simulatedChannel();
        impossibleCalls();
        constants();
        due.end();
    }

    private static void plainChain() {
        due.promise("example 1");
        RetryChains x = new RetryChains();
        due.is("addRate(0, 10)", x.addRate(0, 10), 0);
        due.is("addRate(1, 540)", x.addRate(1, 540), 1);
        due.is("addStation()", x.addStation(), 0);
        due.is("role(0, 0)", x.role(0, 0), 0);
        due.is("role(0, 3)", x.role(0, 3), 0);
        due.is("airTime(1, 1200)", x.airTime(1, 1200), 260);
        due.is("lay(0, 1200)", x.lay(0, 1200), 0);
        due.is("entryRate(0, 0)", x.entryRate(0, 0), 0);
        due.is("entryTries(0, 0)", x.entryTries(0, 0), 1);
        due.is("entryTries(0, 1)", x.entryTries(0, 1), 5);
        due.is("report(0, 1, true)", x.report(0, 1, true), 9919);
        due.is("update(0)", x.update(0), 1);
        due.is("estimate(0, 0)", x.estimate(0, 0), 65536);
        due.is("estimate(0, 1)", x.estimate(0, 1), -9);
        due.is("time()", x.time(), 9919);
    }

    private static void refusedCandidate() {
        due.promise("example 2");
        RetryChains x = new RetryChains();
        due.is("addRate(1, 60)", x.addRate(1, 60), 0);
        due.is("addRate(1, 240)", x.addRate(1, 240), 1);
        due.is("addStation()", x.addStation(), 0);
        due.is("setShare(50)", x.setShare(50), 10);
        due.is("setBudget(100)", x.setBudget(100), 6000);
        due.is("lay(0, 500)", x.lay(0, 500), 0);
        due.is("refusal(0, 0)", x.refusal(0, 0), 1);
        due.is("lay(0, 500)", x.lay(0, 500), 1);
        due.is("kind(1)", x.kind(1), 0);
        due.is("report(0, 4, false)", x.report(0, 4, false), 2772);
        due.is("report(0, 4, false)", x.report(0, 4, false), -1);
        due.is("report(1, 5, true)", x.report(1, 5, true), -1);
        due.is("lost(0)", x.lost(0), 1);
        due.is("chains(0)", x.chains(0), 2);
        due.is("sampled(0)", x.sampled(0), 0);
    }

    private static void simulatedChannel() {
        due.promise("example 3");
        RetryChains x = new RetryChains();
        due.is("addRate(1, 60)", x.addRate(1, 60), 0);
        due.is("addRate(1, 240)", x.addRate(1, 240), 1);
        due.is("addStation()", x.addStation(), 0);
        due.is("setQuality(0, 0, 1000)", x.setQuality(0, 0, 1000), 500);
        due.is("setQuality(0, 1, 0)", x.setQuality(0, 1, 0), 500);
        due.is("forecast(0, 10, 1000, 3)", x.forecast(0, 10, 1000, 3), 10);
        due.is("simulate(0, 10, 1000, 3)", x.simulate(0, 10, 1000, 3), 10);
        due.is("delivered(0)", x.delivered(0), 10);
        due.is("triesOf(0, 1)", x.triesOf(0, 1), 0);
        due.is("update(0)", x.update(0), 1);
        due.is("role(0, 0)", x.role(0, 0), 0);
        due.is("mostUsed(0)", x.mostUsed(0), 0);
        due.is("oracle(0, 1000)", x.oracle(0, 1000), 0);
        due.is("bestChain(0, 1000, 0)", x.bestChain(0, 1000, 0), 0);
        due.is("throughput(0, 0, 1000)", x.throughput(0, 0, 1000), 369216);
    }

    private static void impossibleCalls() {
        due.promise("example 4");
        RetryChains x = new RetryChains();
        due.is("addStation()", x.addStation(), 0);
        due.is("lay(0, 100)", x.lay(0, 100), -2);
        due.is("addRate(0, 5)", x.addRate(0, 5), -1);
        due.is("addRate(0, 100)", x.addRate(0, 100), 0);
        due.is("throughput(0, 0, 1)", x.throughput(0, 0, 1), -9);
        due.is("pass(2147483647)", x.pass(2147483647), 2147483647);
        due.is("pass(1)", x.pass(1), -4);
        due.is("undo()", x.undo(), 2);
        due.is("time()", x.time(), 0);
        due.is("enqueue(0, 100)", x.enqueue(0, 100), 1);
        due.is("dispatch()", x.dispatch(), 0);
        due.is("dispatch()", x.dispatch(), -9);
        due.is("deficit(0)", x.deficit(0), 4000);
        due.is("undo()", x.undo(), 3);
    }

    private static void constants() {
        due.promise("the public face");
        due.is("BAD", RetryChains.BAD, -1);
        due.is("STATE", RetryChains.STATE, -2);
        due.is("FULL", RetryChains.FULL, -3);
        due.is("OVERFLOW", RetryChains.OVERFLOW, -4);
        due.is("NONE", RetryChains.NONE, -9);
    }
}
