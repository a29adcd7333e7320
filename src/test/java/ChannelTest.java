/** Promises 41 to 44. */
public final class ChannelTest {
    private static final int BAD = Due.BAD, STATE = Due.STATE, FULL = Due.FULL, OVERFLOW = Due.OVERFLOW, NONE = Due.NONE;
    private static final Due due = new Due("ChannelTest");

    public static void main(String[] args) {
        setQuality();
        errors();
        frames(7, 500);
        frames(-123456789, 300);
        frames(Integer.MAX_VALUE, 1);
        oneAct();
        forecastChangesNothing();
        updatesWithinSimulation();
        oracle();
        due.end();
    }

    private static void setQuality() {
        due.promise("41");
        RetryChains x = Due.network(2, 1, 540, 1, 240);
        due.is("setQuality(-1, 0, 1)", x.setQuality(-1, 0, 1), BAD);
        due.is("setQuality(2, 0, 1)", x.setQuality(2, 0, 1), BAD);
        due.is("setQuality(0, -1, 1)", x.setQuality(0, -1, 1), BAD);
        due.is("setQuality(0, 2, 1)", x.setQuality(0, 2, 1), BAD);
        due.is("setQuality(0, 0, -1)", x.setQuality(0, 0, -1), BAD);
        due.is("setQuality(0, 0, 1001)", x.setQuality(0, 0, 1001), BAD);
        due.is("setQuality(0, 0, 1000)", x.setQuality(0, 0, 1000), 500);
        due.is("setQuality(0, 0, 0)", x.setQuality(0, 0, 0), 1000);
        due.is("setQuality(0, 1, 3)", x.setQuality(0, 1, 3), 500);
        due.is("setQuality(1, 0, 3)", x.setQuality(1, 0, 3), 500);
        x.addRate(1, 60);
        due.is("setQuality(0, 2, 3)", x.setQuality(0, 2, 3), 500);
    }

    private static void both(String call, RetryChains x, int station, int n, int size, int answer) {
        due.promise("43");
        due.is("forecast" + call, x.forecast(station, n, size, 5), answer);
        due.promise("42");
        due.is("simulate" + call, x.simulate(station, n, size, 5), answer);
    }

    private static void errors() {
        RetryChains x = Due.network(1, 1, 540);
        both("(-1, 1, 1, 5)", x, -1, 1, 1, BAD);
        both("(1, 1, 1, 5)", x, 1, 1, 1, BAD);
        both("(0, 0, 1, 5)", x, 0, 0, 1, BAD);
        both("(0, 51, 1, 5)", x, 0, 51, 1, BAD);
        both("(0, 1, 0, 5)", x, 0, 1, 0, BAD);
        both("(0, 1, 4001, 5)", x, 0, 1, 4001, BAD);
        x.setQuality(0, 0, 1000);
        both("(0, 50, 4000, 5)", x, 0, 50, 4000, 50);
        x.pass(1000000000 - x.time());
        both("at 1000000000", x, 0, 1, 1, 1);
        x.undo();
        x.pass(1);
        both("at 1000000001", x, 0, 1, 1, OVERFLOW);
        both("after 1000000000", x, 0, 1, 1, OVERFLOW);
        for (int chain = 0; chain < 6; chain++) {
            x.lay(0, 1);
        }
        both("FULL before OVERFLOW", x, 0, 1, 1, FULL);
        x.allow(0, 0, false);
        both("STATE before FULL", x, 0, 1, 1, STATE);
        both("BAD before STATE", x, 0, 51, 1, BAD);
        x.allow(0, 0, true);
        x.report(3, 1, true);
        due.is("one chain is free, but it is late", x.simulate(0, 1, 1, 5), OVERFLOW);
    }

    /** One rate and one try an entry: four tries a frame, 151 microseconds each. */
    private static void frames(int seed, int quality) {
        RetryChains x = Due.network(1, 1, 540);
        x.setBudget(100);
        x.setQuality(0, 0, quality);
        int y = seed;
        int delivered = 0;
        int tries = 0;
        for (int frame = 0; frame < 40; frame++) {
            boolean ok = false;
            for (int entry = 0; entry < 4 && !ok; entry++) {
                y = 1103515245 * y + 12345;
                ok = (y >>> 16) % 1000 < quality;
                tries++;
            }
            delivered += ok ? 1 : 0;
        }
        due.promise("43");
        due.is("forecast", x.forecast(0, 40, 1, seed), delivered);
        due.is("time()", x.time(), 0);
        due.promise("42");
        due.is("simulate", x.simulate(0, 40, 1, seed), delivered);
        due.is("delivered(0)", x.delivered(0), delivered);
        due.is("lost(0)", x.lost(0), 40 - delivered);
        due.is("triesOf(0, 0)", x.triesOf(0, 0), tries);
        due.is("successesOf(0, 0)", x.successesOf(0, 0), delivered);
        due.is("chains(0)", x.chains(0), 40);
        due.is("time()", x.time(), tries * 151);
        due.is("deficit(0)", x.deficit(0), -tries * 151);
        due.is("kind(0)", x.kind(0), BAD);
    }

    private static void oneAct() {
        due.promise("42");
        RetryChains x = Due.network(1, 1, 540);
        long before = x.digest();
        x.simulate(0, 30, 100, 9);
        due.is("undo()", x.undo(), 3);
        due.is("digest()", x.digest(), before);
        for (int chain = 0; chain < 5; chain++) {
            x.lay(0, 1);
        }
        due.is("simulate in the last free chain", x.simulate(0, 3, 100, 9), 3);
        due.is("kind(5)", x.kind(5), BAD);
        due.is("kind(4)", x.kind(4), 0);
    }

    private static void forecastChangesNothing() {
        due.promise("43");
        RetryChains x = Due.network(2, 1, 540, 1, 240, 1, 60);
        x.setShare(50);
        x.setQuality(0, 0, 30);
        x.setQuality(0, 2, 300);
        x.setInterval(10000);
        x.update(0);
        long before = x.digest();
        int refusal = x.refusal(0, 0);
        int answer = x.forecast(0, 50, 1000, 77);
        due.is("digest()", x.digest(), before);
        due.is("refusal(0, 0)", x.refusal(0, 0), refusal);
        due.is("events()", x.events(), 0);
        due.is("forecast again", x.forecast(0, 50, 1000, 77), answer);
        due.is("simulate", x.simulate(0, 50, 1000, 77), answer);
        due.is("undo(): forecast is no act", x.undo(), 4);
        due.is("digest()", x.digest(), before);
    }

    private static void updatesWithinSimulation() {
        due.promise("42");
        RetryChains x = Due.network(2, 1, 540);
        x.setBudget(100);
        x.setQuality(0, 0, 1000);
        x.setInterval(1000);
        x.update(0);
        due.is("simulate(0, 6, 1, 1)", x.simulate(0, 6, 1, 1), 6);
        due.is("estimate(0, 0) at 906", x.estimate(0, 0), Due.NONE);
        x.simulate(0, 1, 1, 1);
        due.is("estimate(0, 0) at 1057", x.estimate(0, 0), 65536);
        x.setQuality(0, 0, 0);
        due.is("simulate(0, 3, 1, 1)", x.simulate(0, 3, 1, 1), 0);
        due.is("update at 2265 and after three losses", x.inFallback(0), 0);
        due.is("estimate(0, 0)", x.estimate(0, 0), 49152);
        x.simulate(0, 2, 1, 1);
        due.is("events(): a change at 3473", x.eventKind(0), 1);
        due.is("eventTime(0)", x.eventTime(0), 3473);
    }

    private static void oracle() {
        due.promise("44");
        RetryChains x = Due.network(1, 1, 60, 1, 120, 1, 240, 1, 240);
        due.is("oracle(-1, 1)", x.oracle(-1, 1), BAD);
        due.is("oracle(1, 1)", x.oracle(1, 1), BAD);
        due.is("oracle(0, 0)", x.oracle(0, 0), BAD);
        due.is("oracle(0, 4001)", x.oracle(0, 4001), BAD);
        due.is("oracle(0, 4000)", x.oracle(0, 4000), 2);
        x.setQuality(0, 3, 501);
        due.is("oracle(0, 1)", x.oracle(0, 1), 3);
        x.allow(0, 3, false);
        due.is("not allowed", x.oracle(0, 4000), 2);
        due.is("84 and 84: the smaller number", x.oracle(0, 1), 1);
        // at 1200 bytes 1684, 884, 484: 884 * 250 > 484 * 456, 884 * 250 < 484 * 457
        x.setQuality(0, 0, 0);
        x.setQuality(0, 2, 250);
        x.setQuality(0, 1, 456);
        due.is("oracle(0, 1200)", x.oracle(0, 1200), 2);
        x.setQuality(0, 1, 457);
        due.is("oracle(0, 1200)", x.oracle(0, 1200), 1);
        due.is("oracle by the size of the frame", x.oracle(0, 4000), 2);
        x.setQuality(0, 1, 0);
        x.setQuality(0, 2, 0);
        due.is("no quality", x.oracle(0, 1200), NONE);
        x.setQuality(0, 0, 1);
        due.is("oracle(0, 1200)", x.oracle(0, 1200), 0);
        Due.allowOnly(x, 0, 0);
        due.is("no allowed rate", x.oracle(0, 1200), NONE);
    }
}
