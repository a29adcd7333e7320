/** Promise 14 and the updates of the description. */
public final class UpdateTest {
    private static final int BAD = Due.BAD, NONE = Due.NONE;
    private static final Due due = new Due("UpdateTest");

    public static void main(String[] args) {
        due.promise("14");
        average();
        jumps();
        suddenChange();
        collapse();
        collapseInFallback();
        noCollapse();
        endOfFallback();
        newFirst();
        newInterval();
        due.end();
    }

    private static void average() {
        RetryChains x = Due.network(2, 1, 540, 1, 240, 1, 60);
        due.is("update(-1)", x.update(-1), BAD);
        due.is("update(2)", x.update(2), BAD);
        due.is("update(0)", x.update(0), 0);
        due.is("events()", x.events(), 0);
        Due.tries(x, 0, 1, 3);
        Due.tries(x, 0, 2, 0, 2);
        due.is("update(1)", x.update(1), 0);
        due.is("update(0)", x.update(0), 2);
        due.is("update(0)", x.update(0), 0);
        due.is("estimate(0, 0)", x.estimate(0, 0), NONE);
        due.is("estimate(0, 1)", x.estimate(0, 1), 21845);
        due.is("estimate(0, 2)", x.estimate(0, 2), 10922);
        due.is("estimate(1, 1)", x.estimate(1, 1), NONE);
        Due.teach(x, 0, 1, 2);
        due.is("(21845 * 75 + 32768 * 25) / 100", x.estimate(0, 1), 24575);
        due.is("estimate(0, 2)", x.estimate(0, 2), 10922);
        due.is("triesOf(0, 1)", x.triesOf(0, 1), 5);
        due.is("successesOf(0, 1)", x.successesOf(0, 1), 2);
    }

    /** A first estimate and two samples; with the weight 1 the estimate hardly moves. */
    private static RetryChains learned(int[] first, int[] second, int[] third) {
        RetryChains x = Due.network(1, 1, 540);
        x.setWeight(1);
        Due.teach(x, 0, 0, first);
        Due.teach(x, 0, 0, second);
        Due.teach(x, 0, 0, third);
        return x;
    }

    /** The edges of the tendency: 19661 is a jump, 19660 is none. */
    private static void jumps() {
        int[] all = {1};
        int[] none = {0};
        int[] fifth = {1, 0};
        int[] half = {2};
        int[] threeTenths = {3, 3, 4};
        int[] sevenTenths = {1, 1, 1, 1, 2, 2, 2};
        RetryChains x = learned(fifth, half, all);
        due.is("13107, 32768 (+19661), 65536", x.estimate(0, 0), 65536);
        due.is("events()", x.events(), 1);
        x = learned(none, threeTenths, all);
        due.is("0, 19660 (+19660), 65536", x.estimate(0, 0), (196 * 99 + 65536) / 100);
        due.is("events()", x.events(), 0);
        x = learned(all, sevenTenths, none);
        due.is("65536, 45875 (-19661), 0", x.estimate(0, 0), 0);
        due.is("events()", x.events(), 1);
        x = learned(threeTenths, none, none);
        due.is("19660, 0 (-19660), 0", x.estimate(0, 0), (19463 * 99) / 100);
        due.is("events()", x.events(), 0);
    }

    private static void suddenChange() {
        RetryChains x = Due.network(1, 1, 540);
        x.setWeight(10);
        Due.teach(x, 0, 0, 0);
        Due.teach(x, 0, 0, 1);
        due.is("a first jump is averaged", x.estimate(0, 0), 6553);
        due.is("events()", x.events(), 0);
        Due.teach(x, 0, 0, 1);
        due.is("a second one is believed", x.estimate(0, 0), 65536);
        due.is("events()", x.events(), 1);
        due.is("eventKind(0)", x.eventKind(0), 1);
        due.is("eventRate(0)", x.eventRate(0), 0);
        due.is("eventStation(0)", x.eventStation(0), 0);
        due.is("eventTime(0)", x.eventTime(0), x.time());
        Due.teach(x, 0, 0, 0);
        due.is("a jump down", x.estimate(0, 0), 58982);
        Due.teach(x, 0, 0, 1);
        due.is("no jump between", x.estimate(0, 0), 59637);
        Due.teach(x, 0, 0, 0);
        due.is("a first jump down again", x.estimate(0, 0), 53673);
        x.update(0);
        Due.teach(x, 0, 0, 0);
        due.is("an update without tries keeps the tendency", x.estimate(0, 0), 0);
        Due.teach(x, 0, 0, 1);
        Due.teach(x, 0, 0, 0);
        due.is("the tendency was 0 after the change", x.estimate(0, 0), 5897);
        due.is("events()", x.events(), 2);
        x = learned(new int[] {1}, new int[] {2}, new int[] {2});
        due.is("65536, 32768 (-), 32768 (a change)", x.estimate(0, 0), 32768);
        Due.teach(x, 0, 0, 0);
        due.is("the next jump the same way is a first one", x.estimate(0, 0), 32440);
    }

    private static RetryChains fourRates() {
        RetryChains x = Due.network(1, 1, 540, 1, 240, 1, 60, 0, 10);
        Due.teach(x, 0, 0, 1);
        Due.teach(x, 0, 1, 1);
        Due.teach(x, 0, 2, 1);
        return x;
    }

    private static void collapse() {
        RetryChains x = fourRates();
        due.is("role(0, 0)", x.role(0, 0), 0);
        Due.tries(x, 0, 0, 0);
        Due.tries(x, 0, 1, 3, 0);
        due.is("events()", x.events(), 0);
        due.is("update(0)", x.update(0), 2);
        due.is("estimate(0, 0)", x.estimate(0, 0), 0);
        due.is("estimate(0, 1)", x.estimate(0, 1), 9362);
        due.is("estimate(0, 2): halved", x.estimate(0, 2), 32768);
        due.is("estimate(0, 3)", x.estimate(0, 3), NONE);
        due.is("inFallback(0)", x.inFallback(0), 1);
        due.is("events()", x.events(), 3);
        int[] kinds = {5, 3, 2, NONE};
        for (int k = 0; k < 4; k++) {
            due.is("eventKind(" + k + ")", x.eventKind(k), kinds[k]);
            due.is("eventTime(" + k + ")", x.eventTime(k), k < 3 ? x.time() : NONE);
        }
        due.is("eventRate(0)", x.eventRate(0), 2);
        due.is("eventRate(1)", x.eventRate(1), NONE);
        due.is("eventRate(2)", x.eventRate(2), NONE);
        due.is("role(0, 0)", x.role(0, 0), 2);
        // a rate without an estimate takes its sample too, and odd estimates are rounded down
        Due.tries(x, 0, 2, 0);
        due.is("inFallback(0)", x.inFallback(0), 1);
        x.update(0);
        due.is("one rate is no collapse", x.estimate(0, 2), 24576);
        due.is("inFallback(0)", x.inFallback(0), 0);
        collapseWithNewRate();
    }

    private static void collapseWithNewRate() {
        RetryChains x = Due.network(1, 1, 540, 1, 240, 1, 60, 0, 10);
        Due.teach(x, 0, 0, 1);
        Due.teach(x, 0, 1, 1);
        Due.teach(x, 0, 3, 3);
        Due.tries(x, 0, 0, 0);
        Due.tries(x, 0, 2, 1);
        Due.tries(x, 0, 1, 0);
        due.is("update(0)", x.update(0), 3);
        due.is("inFallback(0)", x.inFallback(0), 1);
        due.is("estimate(0, 1)", x.estimate(0, 1), 0);
        due.is("estimate(0, 2)", x.estimate(0, 2), 65536);
        due.is("estimate(0, 3)", x.estimate(0, 3), 10922);
    }

    private static void collapseInFallback() {
        RetryChains x = fourRates();
        Due.tries(x, 0, 0, 0);
        Due.tries(x, 0, 1, 0, 0);
        due.is("events(): fallback begins", x.events(), 1);
        x.update(0);
        due.is("events(): collapse, new first", x.events(), 3);
        due.is("eventKind(1)", x.eventKind(1), 2);
        due.is("eventKind(2)", x.eventKind(2), 3);
        due.is("inFallback(0)", x.inFallback(0), 1);
        // after the collapse the tendencies are 0: both fell by a jump before it and fall by one after it
        RetryChains y = Due.network(1, 1, 540, 1, 240);
        y.setWeight(1);
        Due.teach(y, 0, 0, 1);
        Due.teach(y, 0, 1, 1);
        Due.teach(y, 0, 0, 2);
        Due.tries(y, 0, 0, 2);
        Due.tries(y, 0, 1, 2);
        y.update(0);
        due.is("collapse", y.inFallback(0), 1);
        due.is("estimate(0, 0)", y.estimate(0, 0), 32768);
        Due.teach(y, 0, 0, 0);
        due.is("a first jump", y.estimate(0, 0), 32440);
        Due.tries(x, 0, 0, 1);
        due.is("inFallback(0)", x.inFallback(0), 0);
        x.update(0);
        due.is("the jump is averaged", x.estimate(0, 0), 16384);
    }

    private static void noCollapse() {
        RetryChains x = fourRates();
        Due.tries(x, 0, 0, 0);
        Due.tries(x, 0, 2, 1);
        Due.tries(x, 0, 1, 0);
        x.update(0);
        due.is("one of three did not fall", x.inFallback(0), 0);
        due.is("estimate(0, 0)", x.estimate(0, 0), 49152);
        due.is("estimate(0, 1)", x.estimate(0, 1), 49152);
        due.is("estimate(0, 2)", x.estimate(0, 2), 65536);
        due.is("events()", x.events(), 0);
        x = Due.network(1, 1, 540, 1, 240);
        Due.teach(x, 0, 0, 1);
        Due.tries(x, 0, 0, 0);
        Due.tries(x, 0, 1, 0);
        x.update(0);
        due.is("only one had an estimate", x.inFallback(0), 0);
        due.is("estimate(0, 0)", x.estimate(0, 0), 49152);
        due.is("estimate(0, 1)", x.estimate(0, 1), 0);
    }

    private static void endOfFallback() {
        RetryChains x = Due.network(1, 1, 540);
        Due.tries(x, 0, 0, 0, 0, 0);
        due.is("inFallback(0)", x.inFallback(0), 1);
        x.update(0);
        due.is("inFallback(0)", x.inFallback(0), 0);
        due.is("eventKind(0)", x.eventKind(0), 4);
        due.is("eventRate(0)", x.eventRate(0), NONE);
        due.is("events()", x.events(), 2);
        Due.tries(x, 0, 0, 0, 0);
        due.is("inFallback(0)", x.inFallback(0), 0);
        Due.tries(x, 0, 0, 0);
        due.is("inFallback(0)", x.inFallback(0), 1);
        // the events of an update come in its order: sudden change, end of fallback, new first
        x = Due.network(1, 1, 540, 1, 240);
        Due.teach(x, 0, 0, 1);
        Due.teach(x, 0, 1, 2);
        Due.teach(x, 0, 0, 0);
        Due.tries(x, 0, 0, 0, 0, 0);
        x.update(0);
        int[] kinds = {5, 4, 1, 3};
        for (int k = 0; k < 4; k++) {
            due.is("eventKind(" + k + ")", x.eventKind(k), kinds[k]);
        }
        due.is("eventRate(0)", x.eventRate(0), 1);
        due.is("eventRate(2)", x.eventRate(2), 0);
        due.is("events()", x.events(), 4);
    }

    private static void newFirst() {
        RetryChains x = Due.network(2, 1, 540, 1, 240);
        Due.tries(x, 1, 1, 4);
        due.is("role(1, 0)", x.role(1, 0), 0);
        x.update(1);
        due.is("role(1, 0)", x.role(1, 0), 1);
        due.is("role(1, 1)", x.role(1, 1), 0);
        due.is("role(0, 0)", x.role(0, 0), 0);
        due.is("events()", x.events(), 1);
        due.is("eventKind(0)", x.eventKind(0), 5);
        due.is("eventStation(0)", x.eventStation(0), 1);
        due.is("eventRate(0)", x.eventRate(0), 1);
        x.update(1);
        due.is("events()", x.events(), 1);
        x.allow(1, 1, false);
        x.allow(1, 0, false);
        x.update(1);
        due.is("no first, no event", x.events(), 1);
    }

    private static void newInterval() {
        RetryChains x = new RetryChains();
        x.addRate(1, 540);
        x.setInterval(10000);
        x.addStation();
        x.pass(7000);
        x.setInterval(5000);
        x.update(0);
        x.lay(0, 1200);
        x.report(0, 1, true);
        x.pass(4672);
        due.is("time()", x.time(), 11999);
        due.is("estimate(0, 0)", x.estimate(0, 0), NONE);
        x.pass(1);
        due.is("estimate(0, 0)", x.estimate(0, 0), 65536);
    }
}
