/**
 * Promises 43, 50, 51 and 52 as a whole: an object that went astray and was brought back answers like one that did
 * not, in all that can be asked and in all that it does afterwards.
 */
public final class StateTest {
    private static final Due due = new Due("StateTest");

    public static void main(String[] args) {
        due.promise("52");
        for (int way = 0; way < Twins.WAYS; way++) {
            RetryChains x = Twins.travelled();
            int acts = Twins.astray(x, way);
            for (int act = 0; act < acts; act++) {
                due.is("undo() on way " + way, x.undo(), 4 - act);
            }
            sameAs("way " + way + " undone", x);
        }
        due.promise("51");
        for (int slot = 0; slot < 2; slot++) {
            RetryChains x = Twins.travelled();
            x.save(slot);
            for (int way = slot; way < Twins.WAYS; way += 2) {
                Twins.astray(x, way);
            }
            x.restore(slot);
            sameAs("slot " + slot + " restored", x);
        }
        ratesOfTheSavedState();
        due.promise("43");
        forecasts();
        errorsAreNoActs();
        due.end();
    }

    private static void sameAs(String what, RetryChains x) {
        Twins.alike(due, what, x, Twins.travelled());
    }

    private static void ratesOfTheSavedState() {
        RetryChains x = new RetryChains();
        x.addRate(1, 60);
        x.addRate(1, 540);
        x.save(1);
        x.undo();
        x.undo();
        x.addRate(2, 650);
        x.addRate(0, 10);
        x.addStation();
        due.is("role(0, 3)", x.role(0, 3), 1);
        x.restore(1);
        due.is("addStation()", x.addStation(), 0);
        due.is("role(0, 3)", x.role(0, 3), 0);
        due.is("airTime(1, 1200)", x.airTime(1, 1200), 260);
        due.is("rateOfMode(1, 0)", x.rateOfMode(1, 0), 0);
    }

    /** On a channel that is poor enough that frames are lost, in states of all kinds. */
    private static void forecasts() {
        RetryChains x = Twins.travelled();
        x.setBudget(300);
        for (int rate = 0; rate < 4; rate++) {
            x.setQuality(0, rate, 60 * rate);
            x.setQuality(1, rate, 200 - 60 * rate);
        }
        int lost = 0;
        for (int round = 0; round < 40; round++) {
            int station = round % 2;
            int n = 1 + round * 7 % 50;
            long before = x.digest();
            int told = x.forecast(station, n, 100 + round, 1000 * round);
            due.is("digest() after forecast", x.digest(), before);
            due.is("simulate as forecast", x.simulate(station, n, 100 + round, 1000 * round), told);
            lost += n - told;
            if (round % 3 == 0) {
                x.undo();
            }
            if (round % 5 == 0) {
                x.pass(9000);
            }
        }
        due.is("frames were lost", lost > 100 ? 1 : 0, 1);
    }

    /** The calls that find an error add nothing to the history. */
    private static void errorsAreNoActs() {
        due.promise("52");
        RetryChains x = new RetryChains();
        for (int rate = 0; rate < 8; rate++) {
            x.addRate(0, 10);
        }
        for (int station = 0; station < 4; station++) {
            x.addStation();
        }
        for (int frame = 0; frame < 8; frame++) {
            x.enqueue(0, 100);
        }
        for (int chain = 0; chain < 6; chain++) {
            x.lay(0, 4000);
        }
        x.save(0);
        x.restore(0);
        x.addRate(1, 20);
        x.addStation();
        x.enqueue(0, 100);
        x.lay(0, 100);
        x.dispatch();
        x.simulate(0, 1, 1, 1);
        x.report(0, 1, false);
        due.is("undo() after FULL and BAD", x.undo(), Due.STATE);
        x.pass(Integer.MAX_VALUE);
        x.save(0);
        x.restore(0);
        x.report(0, 1, true);
        x.pass(1);
        due.is("undo() after OVERFLOW", x.undo(), Due.STATE);
        x = Due.network(1);
        x.save(0);
        x.restore(0);
        x.lay(0, 100);
        x.simulate(0, 1, 1, 1);
        x.enqueue(0, 0);
        x.dispatch();
        due.is("undo() after STATE and NONE", x.undo(), Due.STATE);
        x.addRate(1, 540);
        x.pass(1000000001);
        x.save(0);
        x.restore(0);
        x.simulate(0, 1, 1, 1);
        x.forecast(0, 1, 1, 1);
        x.save(1);
        due.is("undo() after OVERFLOW of simulate", x.undo(), Due.STATE);
    }
}
