/** The sentences of the promises 1 to 8. */
final class SetupSentences {
    private static final int BAD = Due.BAD, STATE = Due.STATE, FULL = Due.FULL, NONE = Due.NONE;
    private static final int MAX = Integer.MAX_VALUE, MIN = Integer.MIN_VALUE;

    private SetupSentences() {
    }

    static void hold(Sentences s) {
        newObject(s);
        addRate(s);
        addStation(s);
        allow(s);
        setShare(s);
        setWeight(s);
        setInterval(s);
        setBudget(s);
    }

    private static void newObject(Sentences s) {
        s.in("Promise 1");
        s.holds("Creates a controller without rates and stations at time 0", due -> {
            RetryChains other = Due.network(4, 1, 540);
            other.pass(5);
            RetryChains x = new RetryChains();
            due.is("time()", x.time(), 0);
            due.bad("airTime", rate -> x.airTime(rate, 1), 0, 1, 7);
            due.bad("chains", x::chains, 0, 1, 3);
            due.bad("role", station -> x.role(station, 0), 0, 3);
            due.row("rateOfMode", mode -> x.rateOfMode(mode, 0), NONE, NONE, NONE);
            due.bad("kind", x::kind, 0, 1, 2, 3, 4, 5);
            due.is("dispatch()", x.dispatch(), NONE);
            due.is("addRate", x.addRate(0, 10), 0);
            due.is("addStation", x.addStation(), 0);
        });
        s.holds("share 10, weight 25, interval length 100000, budget 6000", due -> {
            due.is("setShare", new RetryChains().setShare(0), 10);
            due.is("setWeight", new RetryChains().setWeight(1), 25);
            due.is("setInterval", new RetryChains().setInterval(1000), 100000);
            due.is("setBudget", new RetryChains().setBudget(100), 6000);
            RetryChains x = new RetryChains();
            x.addRate(1, 240);
            x.addRate(1, 240);
            x.addRate(1, 240);
            x.addStation();
            for (int chain = 1; chain <= 9; chain++) {
                x.report(x.lay(0, 1), 1, true);
                due.is("100 > " + chain + " * 10", x.refusal(0, 0), 1);
            }
            x.lay(0, 1);
            due.is("100 = 10 * 10: the first draw of 3 rates is 2", x.tag(0), 14);
            due.is("six tries of 84 take 5010, seven 9697", x.entryTries(0, 1), 6);
        });
        s.holds("the log is empty, no state is saved", due -> {
            RetryChains x = new RetryChains();
            due.is("events()", x.events(), 0);
            due.is("eventKind(0)", x.eventKind(0), NONE);
            due.is("restore(0)", x.restore(0), STATE);
            due.is("restore(1)", x.restore(1), STATE);
            due.is("undo(): and there is no history", x.undo(), STATE);
        });
    }

    private static void addRate(Sentences s) {
        s.in("Promise 2");
        s.said("Adds a rate (act)");
        s.holds("All stations fill their roles anew (without events)", due -> {
            RetryChains x = Due.network(2);
            x.addRate(0, 10);
            due.row("role(.., 0)", station -> x.role(station, 0), 0, 0, BAD);
            x.allow(0, 0, false);
            x.addRate(1, 540);
            due.is("role(0, 0): another one is first", x.role(0, 0), 1);
            due.row("role(1, ..)", role -> x.role(1, role), 0, 1, 0, 0);
            due.is("events()", x.events(), 0);
        });
        s.holds("`mode`: 0 to 2", due -> due.range("addRate(.., 100)", mode -> new RetryChains().addRate(mode, 100), 0, 2));
        s.holds("`speed`: 10 to 10000", due ->
            due.range("addRate(2, ..)", speed -> new RetryChains().addRate(2, speed), 10, 10000));
        s.holds("Returns its number", due -> {
            RetryChains x = new RetryChains();
            due.row("addRate(0, 10)", rate -> x.addRate(rate % 3, 10), 0, 1, 2, 3, 4, 5, 6, 7);
        });
        s.holds("BAD if an argument is out of range", due -> {
            RetryChains x = new RetryChains();
            due.is("addRate(-1, 9)", x.addRate(-1, 9), BAD);
            due.is("addRate(3, 10001)", x.addRate(3, 10001), BAD);
            due.is("addRate(10, 0): turned round", x.addRate(10, 0), BAD);
            due.is("addRate(0, -10)", x.addRate(0, -10), BAD);
            due.is("no rate was added", x.addRate(0, 10), 0);
        });
        s.holds("FULL if there are 8 rates", due -> {
            RetryChains x = Due.network(1, 0, 10, 0, 10, 0, 10, 0, 10, 0, 10, 0, 10, 0, 10);
            due.is("the eighth", x.addRate(0, 10), 7);
            due.is("the ninth", x.addRate(0, 10), FULL);
            due.is("the ninth again", x.addRate(2, 10000), FULL);
            due.is("undo()", x.undo(), 4);
            due.is("the eighth again", x.addRate(1, 540), 7);
            due.is("airTime(7, 1200)", x.airTime(7, 1200), 260);
        });
    }

    private static void addStation(Sentences s) {
        s.in("Promise 3");
        s.said("Adds a station (act)");
        s.holds("Returns its number", due -> {
            RetryChains x = new RetryChains();
            due.row("addStation()", call -> x.addStation(), 0, 1, 2, 3);
        });
        s.holds("FULL if there are 4 stations", due -> {
            RetryChains x = Due.network(3, 1, 540);
            due.is("the fourth", x.addStation(), 3);
            due.is("the fifth", x.addStation(), FULL);
            due.is("undo()", x.undo(), 4);
            due.is("the fourth again", x.addStation(), 3);
            due.is("chains(3)", x.chains(3), 0);
        });
    }

    private static void allow(Sentences s) {
        s.in("Promise 4");
        s.holds("Allows a rate for a station, or forbids it (act)", due -> {
            RetryChains x = Due.network(2, 1, 540);
            x.allow(0, 0, false);
            due.is("lay(0, 1)", x.lay(0, 1), STATE);
            due.is("lay(1, 1)", x.lay(1, 1), 0);
            x.allow(0, 0, true);
            due.is("lay(0, 1)", x.lay(0, 1), 1);
        });
        s.holds("The station fills its roles anew (without an event)", due -> {
            RetryChains x = Due.network(2, 1, 540, 1, 240);
            x.allow(0, 0, false);
            due.row("role(0, ..)", role -> x.role(0, role), 1, 1, 1, 1);
            due.row("role(1, ..)", role -> x.role(1, role), 0, 1, 0, 1);
            x.allow(0, 1, false);
            due.row("role(0, ..)", role -> x.role(0, role), NONE, NONE, NONE, NONE);
            x.allow(0, 0, true);
            due.row("role(0, ..)", role -> x.role(0, role), 0, 0, 0, 0);
            due.is("events()", x.events(), 0);
        });
        s.holds("`station`: number of a station", due -> {
            RetryChains x = Due.network(3, 1, 540);
            due.range("allow(.., 0, true)", station -> x.allow(station, 0, true), 0, 2);
            due.bad("allow(.., 0, true)", station -> x.allow(station, 0, true), 4);
        });
        s.holds("`rate`: number of a rate", due -> {
            RetryChains x = Due.network(1, 1, 540, 1, 240);
            due.range("allow(0, .., true)", rate -> x.allow(0, rate, true), 0, 1);
            due.bad("allow(0, .., true)", rate -> x.allow(0, rate, true), 7, 8);
        });
        s.holds("`on`: true: allowed", due -> {
            RetryChains x = Due.network(1, 1, 540);
            x.allow(0, 0, true);
            due.is("role(0, 0)", x.role(0, 0), 0);
            x.allow(0, 0, false);
            due.is("role(0, 0)", x.role(0, 0), NONE);
        });
        s.holds("Returns 1 if it was allowed before, 0 if not", due -> {
            RetryChains x = Due.network(1, 1, 540);
            boolean[] on = {true, false, false, true, true};
            due.row("allow(0, 0, ..)", call -> x.allow(0, 0, on[call]), 1, 1, 0, 0, 1);
        });
        s.holds("BAD if there is no such station or rate", due -> {
            RetryChains x = Due.network(1, 1, 540);
            due.is("allow(1, 0, false)", x.allow(1, 0, false), BAD);
            due.is("allow(0, 1, false)", x.allow(0, 1, false), BAD);
            due.is("allow(MIN, MAX, true)", x.allow(MIN, MAX, true), BAD);
            x.addRate(1, 240);
            due.is("it was not forbidden beforehand", x.allow(0, 1, true), 1);
        });
    }

    private static void setShare(Sentences s) {
        s.in("Promise 5");
        s.holds("Sets the share of sampling chains in percent (act)", due -> {
            RetryChains x = Due.network(1, 1, 240, 1, 240, 1, 240);
            x.setShare(50);
            x.setShare(0);
            x.lay(0, 1);
            x.lay(0, 1);
            due.is("100 > 0", x.refusal(0, 0), 1);
            x.setShare(34);
            x.lay(0, 1);
            due.is("100 <= 3 * 34", x.kind(2), 1);
        });
        s.holds("`share`: 0 to 50", due -> due.range("setShare", share -> new RetryChains().setShare(share), 0, 50));
        s.holds("Returns the previous share", due -> {
            RetryChains x = new RetryChains();
            int[] shares = {0, 50, 50, 7};
            due.row("setShare", call -> x.setShare(shares[call]), 10, 0, 50, 50);
        });
        s.holds("BAD if share is out of range", due -> {
            RetryChains x = new RetryChains();
            due.bad("setShare", x::setShare, -1, 51, 100, MIN, MAX);
            due.is("setShare(3)", x.setShare(3), 10);
        });
    }

    private static void setWeight(Sentences s) {
        s.in("Promise 6");
        s.holds("Sets the weight of a new sample in percent (act)", due -> {
            for (int weight : new int[] {1, 25, 100}) {
                RetryChains x = Due.network(1, 1, 540);
                x.setWeight(weight);
                Due.teach(x, 0, 0, 1);
                Due.teach(x, 0, 0, 1, 1, 2);
                due.is("weight " + weight, x.estimate(0, 0), (65536 * (100 - weight) + 49152 * weight) / 100);
            }
        });
        s.holds("`weight`: 1 to 100", due -> due.range("setWeight", weight -> new RetryChains().setWeight(weight), 1, 100));
        s.holds("Returns the previous weight", due -> {
            RetryChains x = new RetryChains();
            int[] weights = {1, 100, 100, 7};
            due.row("setWeight", call -> x.setWeight(weights[call]), 25, 1, 100, 100);
        });
        s.holds("BAD if weight is out of range", due -> {
            RetryChains x = new RetryChains();
            due.bad("setWeight", x::setWeight, 0, -1, 101, MIN, MAX);
            due.is("setWeight(3)", x.setWeight(3), 25);
        });
    }

    private static void setInterval(Sentences s) {
        s.in("Promise 7");
        s.holds("Sets the interval length (act)", due -> {
            for (int length : new int[] {1000, 1000000}) {
                RetryChains x = new RetryChains();
                x.addRate(1, 540);
                x.setInterval(length);
                x.addStation();
                Due.tries(x, 0, 0, 1);
                x.pass(length - 1 - x.time());
                due.is("before the end", x.estimate(0, 0), NONE);
                x.pass(1);
                due.is("at the end", x.estimate(0, 0), 65536);
            }
        });
        s.holds("`length`: 1000 to 1000000", due ->
            due.range("setInterval", length -> new RetryChains().setInterval(length), 1000, 1000000));
        s.holds("Returns the previous length", due -> {
            RetryChains x = new RetryChains();
            int[] lengths = {1000, 1000000, 1000000, 5000};
            due.row("setInterval", call -> x.setInterval(lengths[call]), 100000, 1000, 1000000, 1000000);
        });
        s.holds("BAD if length is out of range", due -> {
            RetryChains x = new RetryChains();
            due.bad("setInterval", x::setInterval, 0, 999, -1000, 1000001, MIN, MAX);
            due.is("setInterval(2000)", x.setInterval(2000), 100000);
        });
    }

    private static void setBudget(Sentences s) {
        s.in("Promise 8");
        s.holds("Sets the budget of time for the tries of an entry (act)", due -> {
            RetryChains x = Due.network(1, 1, 540);
            x.setBudget(100);
            x.lay(0, 1200);
            x.setBudget(726);
            x.lay(0, 1200);
            x.setBudget(725);
            x.lay(0, 1200);
            x.setBudget(100000);
            x.lay(0, 1200);
            due.row("entryTries(.., 0)", chain -> x.entryTries(chain, 0), 1, 2, 1, 7);
        });
        s.holds("Chains that were laid stay as they are", due -> {
            RetryChains x = Due.network(1, 1, 540);
            x.lay(0, 1200);
            x.setBudget(100);
            due.row("entryTries(0, ..)", entry -> x.entryTries(0, entry), 5, 5, 5, 5);
            due.is("report(0, 20, false)", x.report(0, 20, false), 4 * 3507);
        });
        s.holds("`budget`: 100 to 100000", due ->
            due.range("setBudget", budget -> new RetryChains().setBudget(budget), 100, 100000));
        s.holds("Returns the previous budget", due -> {
            RetryChains x = new RetryChains();
            int[] budgets = {100, 100000, 100000, 777};
            due.row("setBudget", call -> x.setBudget(budgets[call]), 6000, 100, 100000, 100000);
        });
        s.holds("BAD if budget is out of range", due -> {
            RetryChains x = new RetryChains();
            due.bad("setBudget", x::setBudget, 0, 99, -100, 100001, MIN, MAX);
            due.is("setBudget(777)", x.setBudget(777), 6000);
        });
    }
}
