import java.util.function.IntUnaryOperator;

/** The sentences under CHAINS. */
final class ChainSentences {
    private static final int BAD = Due.BAD, FULL = Due.FULL, NONE = Due.NONE;
    /** The first draw of station 0 is 16838: of 4 rates candidate 2. */
    private static final int[] SLOW = {1, 240, 1, 240, 1, 60, 1, 540};

    private ChainSentences() {
    }

    static void hold(Sentences s) {
        s.in("CHAINS");
        s.said("A chain has a station, the size of its frame, a kind, and four entries, each a rate and a number of tries",
            "To lay a chain for a station", "If the station is in fallback, it is a fallback chain (kind 2)",
            "Otherwise sampling is considered", "Otherwise it is a plain chain (kind 0)");
        places(s);
        fallback(s);
        share(s);
        draw(s);
        causes(s);
        causesOfRoles(s);
        slowCandidate(s);
        entries(s);
        laid(s);
    }

    private static void chainIs(Due due, RetryChains x, int chain, int kind, int... rates) {
        due.is("kind(" + chain + ")", x.kind(chain), kind);
        due.row("entryRate(" + chain + ", ..)", entry -> x.entryRate(chain, entry), rates);
    }

    private static void rolesAre(Due due, RetryChains x, int... rates) {
        due.row("role(0, ..)", role -> x.role(0, role), rates);
    }

    private static void refusalIs(Due due, RetryChains x, int reason, int cause, int causeOfCause) {
        due.row("refusal(0, ..)", depth -> x.refusal(0, depth), reason, cause, causeOfCause);
    }

    /** Before the first draw: chain 0 is open, and the next chain draws a candidate. */
    private static RetryChains drawing(int... rates) {
        RetryChains x = Due.network(1, rates);
        x.setShare(50);
        x.lay(0, 100);
        return x;
    }

    private static void places(Sentences s) {
        s.holds("At most 6 chains are open", due -> {
            RetryChains x = Due.network(2, 1, 540);
            for (int chain = 0; chain < 6; chain++) {
                due.is("lay", x.lay(chain % 2, 1), chain);
            }
            due.is("a seventh chain", x.lay(0, 1), FULL);
            x.enqueue(1, 1);
            due.is("dispatch()", x.dispatch(), FULL);
            due.is("simulate", x.simulate(0, 1, 1, 1), FULL);
            x.report(5, 1, true);
            due.is("after a report", x.dispatch(), 5);
        });
        s.holds("an open chain has a number from 0 to 5", due -> {
            RetryChains x = Due.network(1, 1, 540);
            due.row("lay(0, 1)", call -> x.lay(0, 1), 0, 1, 2, 3, 4, 5);
            due.range("kind", x::kind, 0, 5);
        });
        s.holds("The number of its chains increases by 1", due -> {
            RetryChains x = Due.network(2, 1, 540);
            x.lay(0, 1);
            due.is("chains(0)", x.chains(0), 1);
            due.is("chains(1)", x.chains(1), 0);
            x.enqueue(0, 1);
            x.dispatch();
            due.is("by dispatch()", x.chains(0), 2);
            x.simulate(0, 5, 1, 1);
            due.is("by simulate()", x.chains(0), 7);
            x.report(0, 1, true);
            x.report(1, 1, true);
            Due.tries(x, 0, 0, 0, 0, 0);
            x.lay(0, 1);
            due.is("in fallback, too", x.chains(0), 11);
        });
        s.holds("The chain gets the smallest number that is free", due -> {
            RetryChains x = Due.network(1, 1, 540);
            for (int chain = 0; chain < 6; chain++) {
                x.lay(0, 1);
            }
            x.report(4, 1, true);
            x.report(1, 1, true);
            x.report(5, 1, true);
            due.row("lay(0, 1)", call -> x.lay(0, 1), 1, 4, 5, FULL);
            x.report(0, 1, true);
            due.is("lay(0, 1)", x.lay(0, 1), 0);
        });
    }

    private static void fallback(Sentences s) {
        s.holds("(kind 2): surest, slowest, slowest, slowest", due -> {
            RetryChains x = Due.network(1, 1, 240, 1, 540, 1, 60);
            Due.teach(x, 0, 0, 2);
            Due.teach(x, 0, 1, 3);
            Due.tries(x, 0, 1, 0, 0, 0);
            rolesAre(due, x, 1, 0, 0, 2);
            x.lay(0, 700);
            chainIs(due, x, 0, 2, 0, 2, 2, 2);
        });
        s.holds("Otherwise sampling is considered .. (reason 1). Otherwise the draw state", due -> {
            // in fallback no share is asked for and nothing is drawn
            RetryChains x = drawing(1, 240, 1, 240, 1, 240, 1, 240);
            Due.tries(x, 0, 0, 0, 0, 0);
            for (int chain = 1; chain <= 3; chain++) {
                due.is("lay(0, 1)", x.lay(0, 1), chain);
                due.is("kind", x.kind(chain), 2);
                refusalIs(due, x, NONE, NONE, NONE);
            }
            due.is("sampled(0)", x.sampled(0), 0);
            x.report(3, 1, true);
            x.lay(0, 1);
            due.is("kind(3) after the fallback", x.kind(3), 1);
            due.is("tag(3): the first draw", x.tag(3), 3 * 4 + 2);
        });
        s.holds("(kind 0): first, second, surest, slowest", due -> {
            RetryChains x = Due.network(1, 1, 60, 1, 120, 1, 240, 0, 10, 1, 540);
            x.setShare(0);
            Due.teach(x, 0, 2, 2);
            Due.teach(x, 0, 4, 2);
            Due.teach(x, 0, 1, 1);
            x.lay(0, 1200);
            chainIs(due, x, 0, 0, 4, 2, 1, 3);
        });
    }

    private static void share(Sentences s) {
        s.holds("If (sampling chains so far + 1) * 100 is greater than (chains, this one included) * share", due -> {
            due.row("reasons at 50 percent", reasons(50, 4), 1, NONE, 1, NONE);
            due.row("reasons at 34 percent: 100 <= 102, 200 <= 204", reasons(34, 6), 1, 1, NONE, 1, 1, NONE);
            due.row("reasons at 33 percent: 100 > 99, 200 <= 231", reasons(33, 7), 1, 1, 1, NONE, 1, 1, NONE);
            due.row("reasons at 25 percent: 100 <= 100", reasons(25, 4), 1, 1, 1, NONE);
            due.row("reasons at 24 percent: 100 > 96", reasons(24, 5), 1, 1, 1, 1, NONE);
            due.row("reasons at 0 percent", reasons(0, 9), 1, 1, 1, 1, 1, 1, 1, 1, 1);
        });
        s.holds("the share does not allow it (reason 1)", due -> {
            RetryChains x = Due.network(1, SLOW);
            x.setShare(50);
            x.lay(0, 100);
            refusalIs(due, x, 1, NONE, NONE);
            chainIs(due, x, 0, 0, 0, 1, 0, 2);
            due.is("sampled(0)", x.sampled(0), 0);
            x.lay(0, 100);
            due.is("nothing was drawn: the first candidate", x.tag(1), 1202);
        });
    }

    /** All rates are alike, so only 0 and 1 are refused; the reasons are told by the number of the chain. */
    private static IntUnaryOperator reasons(int share, int count) {
        RetryChains x = Due.network(1, 1, 240, 1, 240, 1, 240, 1, 240, 1, 240, 1, 240, 1, 240, 1, 240);
        x.setShare(share);
        int[] reasons = new int[count];
        for (int chain = 0; chain < count; chain++) {
            x.report(x.lay(0, 1), 1, true);
            reasons[chain] = x.refusal(0, 0);
        }
        return chain -> reasons[chain];
    }

    private static void draw(Sentences s) {
        s.holds("the draw state x becomes 1103515245 * x + 12345 (int, with overflow), and the candidate is the rate "
                + "(x >>> 16) % (number of rates)", due -> {
            // of 7 rates that are alike; x is negative after the second, the fourth, the fifth and more draws
            int[] candidates = {3, 5, 5, 2, 0, 0, 2, 0};
            RetryChains x = Due.network(1, 1, 240, 1, 240, 1, 240, 1, 240, 1, 240, 1, 240, 1, 240);
            x.setShare(0);
            for (int chain = 0; chain < 20; chain++) {
                x.report(x.lay(0, 1), 1, true);
            }
            x.setShare(50);
            for (int candidate : candidates) {
                x.lay(0, 1);
                if (candidate == 0) {
                    refusalIs(due, x, 2, 12, 21);
                } else {
                    due.is("tag(0)", x.tag(0), 12 + candidate);
                }
                x.report(0, 1, true);
            }
            // of one rate it is always this one
            x = Due.network(1, 1, 240);
            x.setShare(50);
            x.lay(0, 1);
            for (int draw = 0; draw < 4; draw++) {
                x.report(x.lay(0, 1), 1, true);
                refusalIs(due, x, 2, 12, 21);
            }
            // forbidden rates are counted: of 8 rates 6
            x = drawing(1, 240, 1, 240, 1, 240, 1, 240, 1, 240, 1, 240, 1, 240, 1, 240);
            x.allow(0, 2, false);
            x.allow(0, 3, false);
            x.lay(0, 1);
            due.is("tag(1)", x.tag(1), 12 + 6);
        });
    }

    private static void causes(Sentences s) {
        s.holds("The candidate is refused (reason 2) for the first of these causes that applies", due -> {
            RetryChains x = drawing(SLOW);
            Due.teach(x, 0, 2, 1);
            x.allow(0, 2, false);
            x.lay(0, 1);
            refusalIs(due, x, 2, 11, NONE);
            chainIs(due, x, 1, 0, 0, 1, 0, 0);
            due.is("sampled(0)", x.sampled(0), 0);
            x = drawing(SLOW);
            Due.teach(x, 0, 2, 1);
            Due.tries(x, 0, 2, 1);
            x.lay(0, 1);
            refusalIs(due, x, 2, 12, 21);
            x = drawing(SLOW);
            Due.teach(x, 0, 2, 1);
            Due.teach(x, 0, 1, 1);
            Due.teach(x, 0, 0, 1);
            Due.tries(x, 0, 2, 1);
            x.lay(0, 1);
            refusalIs(due, x, 2, 13, NONE);
            x.lay(0, 1);
            refusalIs(due, x, 2, 13, NONE);
            x.lay(0, 1);
            due.is("a refused candidate was drawn: the third one is 1", x.refusal(0, 1), 12);
        });
        s.holds("11 it is not allowed", due -> {
            RetryChains x = drawing(SLOW);
            x.allow(0, 2, false);
            x.lay(0, 1);
            refusalIs(due, x, 2, 11, NONE);
            x = drawing(SLOW);
            x.allow(0, 2, false);
            x.allow(0, 2, true);
            x.lay(0, 1);
            refusalIs(due, x, NONE, NONE, NONE);
        });
        s.holds("13 its estimate is 62259 or more", due -> {
            RetryChains x = drawing(SLOW);
            Due.teach(x, 0, 2, 1, 1, 1, 1, 1, 1, 1, 1, 1, 1, 1, 1, 1, 1, 1, 1, 1, 1, 2);
            Due.teach(x, 0, 1, 1);
            Due.teach(x, 0, 0, 1);
            due.is("estimate(0, 2)", x.estimate(0, 2), 62259);
            x.lay(0, 1);
            refusalIs(due, x, 2, 13, NONE);
            x = drawing(SLOW);
            Due.teach(x, 0, 2, 1);
            x.setWeight(60);
            Due.teach(x, 0, 2, 1, 1, 1, 1, 1, 1, 1, 1, 1, 1, 2);
            Due.teach(x, 0, 1, 1);
            Due.teach(x, 0, 0, 1);
            due.is("estimate(0, 2)", x.estimate(0, 2), 62258);
            x.lay(0, 1);
            refusalIs(due, x, NONE, NONE, NONE);
        });
    }

    private static void causesOfRoles(Sentences s) {
        s.holds("12 it has a role already (21 it is first", due -> {
            RetryChains x = drawing(SLOW);
            Due.teach(x, 0, 2, 2);
            Due.teach(x, 0, 1, 0);
            due.is("role(0, 0)", x.role(0, 0), 2);
            x.lay(0, 1);
            refusalIs(due, x, 2, 12, 21);
        });
        s.holds("22 it is second", due -> {
            RetryChains x = drawing(SLOW);
            Due.teach(x, 0, 2, 2);
            Due.teach(x, 0, 0, 1);
            rolesAre(due, x, 0, 2, 0, 2);
            x.lay(0, 1);
            refusalIs(due, x, 2, 12, 22);
        });
        s.holds("23 it is surest", due -> {
            RetryChains x = drawing(SLOW);
            Due.teach(x, 0, 2, 1);
            Due.teach(x, 0, 0, 2);
            Due.teach(x, 0, 1, 2);
            rolesAre(due, x, 0, 1, 2, 2);
            x.lay(0, 1);
            refusalIs(due, x, 2, 12, 23);
        });
        s.holds("the first of these)", due -> {
            RetryChains x = drawing(SLOW);
            x.allow(0, 0, false);
            x.allow(0, 1, false);
            x.allow(0, 3, false);
            rolesAre(due, x, 2, 2, 2, 2);
            x.lay(0, 1);
            refusalIs(due, x, 2, 12, 21);
            x = drawing(SLOW);
            Due.teach(x, 0, 0, 3);
            Due.teach(x, 0, 2, 1);
            rolesAre(due, x, 0, 2, 2, 2);
            x.lay(0, 1);
            refusalIs(due, x, 2, 12, 22);
        });
        s.holds("12 it has a role already (21 it is first, 22 it is second, 23 it is surest", due -> {
            // slowest is not among the causes
            RetryChains x = drawing(SLOW);
            rolesAre(due, x, 0, 1, 0, 2);
            x.lay(0, 100);
            refusalIs(due, x, NONE, NONE, NONE);
            chainIs(due, x, 1, 1, 0, 2, 0, 2);
        });
    }

    private static void slowCandidate(Sentences s) {
        s.holds("14 its nominal air time is greater than that of surest, and it has tries in the present interval", due -> {
            RetryChains x = drawing(SLOW);
            Due.tries(x, 0, 2, 1);
            x.lay(0, 1);
            refusalIs(due, x, 2, 14, NONE);
            // its tries were in the interval before
            x = drawing(SLOW);
            Due.teach(x, 0, 2, 2);
            Due.teach(x, 0, 0, 1);
            Due.teach(x, 0, 1, 1);
            Due.tries(x, 0, 0, 1);
            x.lay(0, 1);
            refusalIs(due, x, NONE, NONE, NONE);
            x = drawing(1, 240, 1, 240, 1, 240, 1, 60);
            Due.tries(x, 0, 2, 1);
            x.lay(0, 1);
            refusalIs(due, x, NONE, NONE, NONE);
            x = drawing(1, 238, 1, 238, 1, 240, 1, 60);
            Due.tries(x, 0, 2, 1);
            x.lay(0, 1);
            refusalIs(due, x, NONE, NONE, NONE);
            x = drawing(1, 240, 1, 240, 1, 238, 1, 60);
            due.is("484 and 488", x.airTime(2, 1200), 488);
            Due.tries(x, 0, 2, 4);
            x.lay(0, 1);
            refusalIs(due, x, 2, 14, NONE);
            // slower than first, but not than surest
            x = drawing(1, 540, 1, 30, 1, 60, 1, 540);
            Due.teach(x, 0, 1, 1);
            Due.teach(x, 0, 0, 2);
            Due.teach(x, 0, 3, 2);
            Due.tries(x, 0, 2, 1);
            rolesAre(due, x, 0, 3, 1, 1);
            x.lay(0, 1);
            chainIs(due, x, 1, 1, 0, 2, 1, 1);
        });
    }

    private static void entries(Sentences s) {
        s.holds("(kind 1): c, first, surest, slowest, if the nominal air time of c is at most that of first", due -> {
            RetryChains x = drawing(1, 120, 1, 120, 1, 540, 1, 60);
            x.lay(0, 100);
            chainIs(due, x, 1, 1, 2, 0, 0, 3);
            x = drawing(1, 120, 1, 120, 1, 120, 1, 60);
            x.lay(0, 100);
            chainIs(due, x, 1, 1, 2, 0, 0, 3);
            // the nominal air time decides, not that of the frame: 84 and 84 at 4 bytes
            x = drawing(1, 240, 1, 240, 1, 200, 1, 60);
            x.lay(0, 4);
            chainIs(due, x, 1, 1, 0, 2, 0, 3);
            due.is("sampled(0)", x.sampled(0), 1);
        });
        s.holds("otherwise first, c, surest, slowest", due -> {
            RetryChains x = drawing(1, 240, 1, 240, 1, 238, 1, 60);
            due.is("484 and 488", x.airTime(2, 1200) - x.airTime(0, 1200), 4);
            x.lay(0, 100);
            chainIs(due, x, 1, 1, 0, 2, 0, 3);
            // surest is another one than first
            x = drawing(1, 240, 1, 120, 1, 60, 0, 10);
            Due.teach(x, 0, 1, 1);
            Due.teach(x, 0, 0, 1, 1, 1, 1, 1, 1, 2);
            x.lay(0, 100);
            chainIs(due, x, 1, 1, 0, 2, 1, 3);
        });
        s.said("If the candidate c is not refused, it is a sampling chain");
        s.holds("The entry of a candidate has one try", due -> {
            RetryChains x = drawing(1, 120, 1, 120, 1, 540, 1, 60);
            x.setBudget(100000);
            x.lay(0, 100);
            due.row("entryTries(1, ..)", entry -> x.entryTries(1, entry), 1, 7, 7, 7);
            RetryChains y = drawing(SLOW);
            y.setBudget(100000);
            y.lay(0, 100);
            due.row("entryRate(1, ..)", entry -> y.entryRate(1, entry), 0, 2, 0, 2);
            due.row("entryTries(1, ..): slowest has all of them", entry -> y.entryTries(1, entry), 7, 1, 7, 7);
        });
        s.holds("each other entry has the number of tries of its rate for the frame", due -> {
            RetryChains x = Due.network(1, 1, 60, 1, 120, 1, 240, 0, 10, 1, 540);
            x.setShare(0);
            Due.teach(x, 0, 2, 2);
            Due.teach(x, 0, 4, 2);
            Due.teach(x, 0, 1, 1);
            x.lay(0, 1200);
            due.row("entryTries(1, ..)", entry -> x.entryTries(0, entry), 5, 5, 4, 1);
            x.lay(0, 1);
            due.row("entryTries(1, ..)", entry -> x.entryTries(1, entry), 6, 6, 6, 5);
            // also where a sampling chain was before
            RetryChains y = drawing(SLOW);
            y.lay(0, 1);
            due.row("entryTries(1, ..)", entry -> y.entryTries(1, entry), 6, 1, 6, 6);
            y.report(1, 1, true);
            y.setShare(0);
            y.lay(0, 1);
            chainIs(due, y, 1, 0, 0, 1, 0, 2);
            due.row("entryTries(1, ..)", entry -> y.entryTries(1, entry), 6, 6, 6, 6);
            due.is("tag(1)", y.tag(1), 4);
        });
    }

    private static void laid(Sentences s) {
        s.holds("What was laid stays as it is, whatever changes later", due -> {
            RetryChains x = Due.network(2, SLOW);
            x.setShare(50);
            x.lay(0, 100);
            x.lay(0, 200);
            x.lay(1, 300);
            x.setShare(0);
            x.setBudget(100000);
            x.addRate(0, 10);
            x.addRate(1, 1000);
            x.report(2, 1, true);
            x.lay(1, 400);
            Due.teach(x, 0, 4, 1);
            Due.tries(x, 0, 0, 0, 0, 0);
            x.allow(0, 0, false);
            x.allow(0, 2, false);
            x.update(0);
            chainIs(due, x, 0, 0, 0, 1, 0, 2);
            chainIs(due, x, 1, 1, 0, 2, 0, 2);
            due.row("entryTries(0, ..)", entry -> x.entryTries(0, entry), 6, 6, 6, 6);
            due.row("entryTries(1, ..)", entry -> x.entryTries(1, entry), 6, 1, 6, 5);
            due.is("tag(0)", x.tag(0), 400);
            due.is("tag(1)", x.tag(1), 2402);
            due.is("stationOf(1)", x.stationOf(1), 0);
            due.is("report(1, 19, true)", x.report(1, 19, true), BAD);
            due.is("the tries that were laid", x.report(1, 18, true) > 0 ? x.triesOf(0, 2) : BAD, 1 + 5);
        });
    }
}
