/** Promises 1 to 8. */
public final class SetupTest {
    private static final int BAD = Due.BAD, STATE = Due.STATE, FULL = Due.FULL, NONE = Due.NONE;
    private static final Due due = new Due("SetupTest");

    public static void main(String[] args) {
        newObject();
        addRate();
        addStation();
        allow();
        setShare();
        setWeight();
        setInterval();
        setBudget();
        due.end();
    }

    private static void newObject() {
        due.promise("1");
        RetryChains x = new RetryChains();
        due.is("time()", x.time(), 0);
        due.is("events()", x.events(), 0);
        due.is("eventKind(0)", x.eventKind(0), NONE);
        due.is("airTime(0, 1)", x.airTime(0, 1), BAD);
        due.is("chains(0)", x.chains(0), BAD);
        due.is("kind(0)", x.kind(0), BAD);
        due.is("rateOfMode(0, 0)", x.rateOfMode(0, 0), NONE);
        due.is("dispatch()", x.dispatch(), NONE);
        due.is("undo()", x.undo(), STATE);
        due.is("restore(0)", x.restore(0), STATE);
        due.is("restore(1)", x.restore(1), STATE);
        due.is("setShare(1)", x.setShare(1), 10);
        due.is("setWeight(1)", x.setWeight(1), 25);
        due.is("setInterval(1000)", x.setInterval(1000), 100000);
        due.is("setBudget(100)", x.setBudget(100), 6000);
        new RetryChains().addRate(0, 10);
        due.is("airTime(0, 1) of another object", x.airTime(0, 1), BAD);
    }

    private static void addRate() {
        due.promise("2");
        RetryChains x = new RetryChains();
        due.is("addRate(-1, 10)", x.addRate(-1, 10), BAD);
        due.is("addRate(3, 10)", x.addRate(3, 10), BAD);
        due.is("addRate(0, 9)", x.addRate(0, 9), BAD);
        due.is("addRate(0, 10001)", x.addRate(0, 10001), BAD);
        due.is("undo() after errors", x.undo(), STATE);
        for (int rate = 0; rate < 8; rate++) {
            due.is("addRate", x.addRate(rate % 3, rate == 0 ? 10000 : 10), rate);
        }
        due.is("a ninth rate", x.addRate(2, 500), FULL);
        due.is("a ninth rate, wrong", x.addRate(2, 5), BAD);
        due.is("undo()", x.undo(), 4);
        due.is("addRate again", x.addRate(1, 540), 7);
        due.is("airTime(7, 1200)", x.airTime(7, 1200), 260);
        rolesAreFilledByRates();
    }

    private static void rolesAreFilledByRates() {
        RetryChains x = Due.network(2);
        due.is("role(0, 0) without rates", x.role(0, 0), NONE);
        x.addRate(1, 240);
        for (int role = 0; role < 4; role++) {
            due.is("role(0, role)", x.role(0, role), 0);
            due.is("role(1, role)", x.role(1, role), 0);
        }
        x.addRate(1, 60);
        due.is("role(1, 0)", x.role(1, 0), 0);
        due.is("role(1, 1)", x.role(1, 1), 1);
        due.is("role(1, 2)", x.role(1, 2), 0);
        due.is("role(1, 3)", x.role(1, 3), 1);
        due.is("allow(1, 1, true): allowed at first", x.allow(1, 1, true), 1);
        due.is("events()", x.events(), 0);
    }

    private static void addStation() {
        due.promise("3");
        RetryChains x = Due.network(0, 1, 60, 1, 240);
        for (int station = 0; station < 4; station++) {
            due.is("addStation()", x.addStation(), station);
        }
        due.is("a fifth station", x.addStation(), FULL);
        due.is("role(3, 1)", x.role(3, 1), 1);
        due.is("role(3, 3)", x.role(3, 3), 0);
        due.is("estimate(3, 0)", x.estimate(3, 0), NONE);
        due.is("setQuality(3, 0, 1)", x.setQuality(3, 0, 1), 500);
        due.is("deficit(3)", x.deficit(3), 0);
        due.is("inFallback(3)", x.inFallback(3), 0);
        due.is("queued(3)", x.queued(3), 0);
        due.is("chains(3)", x.chains(3), 0);
        due.is("undo()", x.undo(), 4);
        due.is("undo()", x.undo(), 3);
        due.is("chains(3) undone", x.chains(3), BAD);
        intervalOfNewStation();
    }

    private static void intervalOfNewStation() {
        RetryChains x = new RetryChains();
        x.addRate(1, 540);
        x.pass(700);
        x.setInterval(1000);
        x.addStation();
        x.lay(0, 1200);
        due.is("report(0, 1, true)", x.report(0, 1, true), 327);
        x.pass(672);
        due.is("estimate(0, 0) at 1699", x.estimate(0, 0), NONE);
        x.pass(1);
        due.is("estimate(0, 0) at 1700", x.estimate(0, 0), 65536);
    }

    private static void allow() {
        due.promise("4");
        RetryChains x = Due.network(2, 1, 240, 1, 60, 1, 540);
        due.is("allow(2, 0, true)", x.allow(2, 0, true), BAD);
        due.is("allow(-1, 0, true)", x.allow(-1, 0, true), BAD);
        due.is("allow(0, 3, true)", x.allow(0, 3, true), BAD);
        due.is("allow(0, -1, true)", x.allow(0, -1, true), BAD);
        due.is("allow(0, 0, true)", x.allow(0, 0, true), 1);
        due.is("allow(0, 0, false)", x.allow(0, 0, false), 1);
        due.is("allow(0, 0, false)", x.allow(0, 0, false), 0);
        due.is("role(0, 0)", x.role(0, 0), 1);
        due.is("role(0, 1)", x.role(0, 1), 2);
        due.is("role(1, 0)", x.role(1, 0), 0);
        x.allow(0, 1, false);
        due.is("role(0, 1): first itself", x.role(0, 1), 2);
        due.is("role(0, 3)", x.role(0, 3), 2);
        x.allow(0, 2, false);
        for (int role = 0; role < 4; role++) {
            due.is("role of none", x.role(0, role), NONE);
        }
        due.is("allow(0, 0, true)", x.allow(0, 0, true), 0);
        due.is("role(0, 2)", x.role(0, 2), 0);
        due.is("events()", x.events(), 0);
    }

    private static void setShare() {
        due.promise("5");
        RetryChains x = Due.network(1, 1, 240, 1, 60, 1, 120, 1, 540);
        due.is("setShare(-1)", x.setShare(-1), BAD);
        due.is("setShare(51)", x.setShare(51), BAD);
        due.is("setShare(0)", x.setShare(0), 10);
        due.is("setShare(50)", x.setShare(50), 0);
        due.is("setShare(49)", x.setShare(49), 50);
        x.lay(0, 100);
        x.lay(0, 100);
        due.is("refusal(0, 0): 100 > 2 * 49", x.refusal(0, 0), 1);
        x.setShare(0);
        x.lay(0, 100);
        due.is("refusal(0, 0): 100 > 0", x.refusal(0, 0), 1);
        x.setShare(25);
        due.is("lay(0, 100)", x.lay(0, 100), 3);
        due.is("kind(3): 100 = 4 * 25, candidate 2", x.kind(3), 1);
        due.is("sampled(0)", x.sampled(0), 1);
    }

    private static void setWeight() {
        due.promise("6");
        RetryChains x = Due.network(1, 1, 240);
        due.is("setWeight(0)", x.setWeight(0), BAD);
        due.is("setWeight(101)", x.setWeight(101), BAD);
        due.is("setWeight(1)", x.setWeight(1), 25);
        Due.teach(x, 0, 0, 1);
        Due.teach(x, 0, 0, 1, 2);
        due.is("(65536 * 99 + 43690) / 100", x.estimate(0, 0), 65317);
        due.is("setWeight(100)", x.setWeight(100), 1);
        Due.teach(x, 0, 0, 1, 1, 2);
        due.is("the sample", x.estimate(0, 0), 49152);
        due.is("setWeight(25)", x.setWeight(25), 100);
        Due.teach(x, 0, 0, 1);
        due.is("(49152 * 75 + 65536 * 25) / 100", x.estimate(0, 0), 53248);
    }

    private static void setInterval() {
        due.promise("7");
        RetryChains x = new RetryChains();
        due.is("setInterval(999)", x.setInterval(999), BAD);
        due.is("setInterval(1000001)", x.setInterval(1000001), BAD);
        due.is("setInterval(1000000)", x.setInterval(1000000), 100000);
        due.is("setInterval(5000)", x.setInterval(5000), 1000000);
        x.addRate(1, 540);
        x.addStation();
        x.lay(0, 1200);
        x.report(0, 1, true);
        due.is("setInterval(1000)", x.setInterval(1000), 5000);
        x.pass(4999 - x.time());
        due.is("the end is not moved", x.estimate(0, 0), NONE);
        x.pass(1);
        due.is("estimate(0, 0) at 5000", x.estimate(0, 0), 65536);
        x.lay(0, 1200);
        x.report(0, 5, true);
        due.is("time()", x.time(), 8507);
        due.is("the next end was 6000", x.estimate(0, 0), (65536 * 75 + 13107 * 25) / 100);
    }

    private static void setBudget() {
        due.promise("8");
        RetryChains x = Due.network(1, 1, 540);
        due.is("setBudget(99)", x.setBudget(99), BAD);
        due.is("setBudget(100001)", x.setBudget(100001), BAD);
        due.is("setBudget(100000)", x.setBudget(100000), 6000);
        // the tries at 1200 bytes take 327, 399, 543, 831, 1407, 2559 and 4863
        int[] budgets = {100, 326, 725, 726, 1268, 1269, 6065, 6066, 10928, 10929, 100000};
        int[] tries = {1, 1, 1, 2, 2, 3, 5, 6, 6, 7, 7};
        int before = 100000;
        for (int i = 0; i < budgets.length; i++) {
            due.is("setBudget", x.setBudget(budgets[i]), before);
            before = budgets[i];
            due.is("lay(0, 1200)", x.lay(0, 1200), 0);
            due.is("entryTries at " + before, x.entryTries(0, 3), tries[i]);
            x.setBudget(9999);
            due.is("what was laid stays", x.entryTries(0, 3), tries[i]);
            x.setBudget(before);
            x.report(0, 1, true);
        }
    }
}
