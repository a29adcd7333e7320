/** Promises 33 to 40. */
public final class CountsTest {
    private static final int BAD = Due.BAD;
    private static final Due due = new Due("CountsTest");

    public static void main(String[] args) {
        noSuchStation();
        counts();
        queues();
        due.end();
    }

    private static void noSuchStation() {
        RetryChains x = Due.network(2, 1, 540);
        for (int station : new int[] {-1, 2, 4, Integer.MIN_VALUE, Integer.MAX_VALUE}) {
            due.promise("33");
            due.is("chains(" + station + ")", x.chains(station), BAD);
            due.promise("34");
            due.is("sampled(" + station + ")", x.sampled(station), BAD);
            due.promise("35");
            due.is("delivered(" + station + ")", x.delivered(station), BAD);
            due.promise("36");
            due.is("lost(" + station + ")", x.lost(station), BAD);
            due.promise("37");
            due.is("queued(" + station + ")", x.queued(station), BAD);
            due.promise("38");
            due.is("deficit(" + station + ")", x.deficit(station), Integer.MIN_VALUE);
            due.promise("39");
            due.is("inFallback(" + station + ")", x.inFallback(station), BAD);
        }
    }

    private static void counts() {
        RetryChains x = Due.network(2, 1, 240, 1, 240, 1, 60, 1, 540);
        x.setShare(50);
        for (int chain = 0; chain < 4; chain++) {
            x.lay(1, 100);
        }
        x.report(0, 1, true);
        x.report(1, 2, true);
        int tries = 0;
        for (int entry = 0; entry < 4; entry++) {
            tries += x.entryTries(2, entry);
        }
        x.report(2, tries, false);
        x.simulate(1, 3, 100, 5);
        due.promise("33");
        due.is("chains(0)", x.chains(0), 0);
        due.is("chains(1)", x.chains(1), 7);
        due.promise("34");
        due.is("sampled(0)", x.sampled(0), 0);
        // candidates of the draws: 3634, 38340, .. of 4 rates; the second chain and the fourth sample
        due.is("sampled(1)", x.sampled(1), sampledByDraws());
        due.promise("35");
        due.is("delivered(1)", x.delivered(1), 5);
        due.is("delivered(0)", x.delivered(0), 0);
        due.promise("36");
        due.is("lost(1)", x.lost(1), 1);
        due.is("lost(0)", x.lost(0), 0);
        due.promise("38");
        due.is("deficit(1)", x.deficit(1), -x.time());
        due.is("deficit(0)", x.deficit(0), 0);
        due.promise("39");
        due.is("inFallback(1)", x.inFallback(1), 0);
        Due.tries(x, 1, 1, 0, 0, 0);
        due.is("inFallback(1)", x.inFallback(1), 1);
        due.is("inFallback(0)", x.inFallback(0), 0);
        due.promise("40");
        due.is("time()", x.time(), -x.deficit(1));
        x.pass(10);
        due.is("time()", x.time(), 10 - x.deficit(1));
    }

    /** No estimate is made: 0 and 1 have the roles, 2 is slower than surest, 3 is never refused. */
    private static int sampledByDraws() {
        int draw = 8;
        int sampled = 0;
        boolean[] triedSlow = {false, false, false, false, true, true, true};
        for (int chains = 1; chains <= 7; chains++) {
            if ((sampled + 1) * 100 > chains * 50) {
                continue;
            }
            draw = 1103515245 * draw + 12345;
            int candidate = (draw >>> 16) % 4;
            if (candidate == 3 || candidate == 2 && !triedSlow[chains - 1]) {
                sampled++;
            }
        }
        return sampled;
    }

    private static void queues() {
        due.promise("37");
        RetryChains x = Due.network(2, 1, 540);
        x.enqueue(1, 100);
        x.enqueue(1, 100);
        due.is("queued(0)", x.queued(0), 0);
        due.is("queued(1)", x.queued(1), 2);
        x.dispatch();
        due.is("queued(1)", x.queued(1), 1);
        x.lay(1, 100);
        due.is("queued(1)", x.queued(1), 1);
        x.dispatch();
        due.is("queued(1)", x.queued(1), 0);
    }
}
