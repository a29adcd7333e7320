import java.util.function.ToIntBiFunction;

/** The sentences of the promises 15 to 21. */
final class OpenChainSentences {
    private static final int BAD = Due.BAD;
    private static final int MAX = Integer.MAX_VALUE, MIN = Integer.MIN_VALUE;

    private OpenChainSentences() {
    }

    static void hold(Sentences s) {
        kind(s);
        stationOf(s);
        entryRate(s);
        entryTries(s);
        tag(s);
        deliveryChance(s);
        expectedTime(s);
    }

    /** Chain 0 is plain, 1 samples rate 2, 2 is a fallback chain of station 1, 3 to 5 were never open. */
    private static RetryChains threeKinds() {
        RetryChains x = Due.network(2, 1, 240, 1, 240, 1, 60, 1, 540);
        Due.tries(x, 1, 0, 0, 0, 0);
        x.setShare(50);
        x.lay(0, 123);
        x.lay(0, 4000);
        x.lay(1, 77);
        return x;
    }

    /** All six chains are open: each number is taken; and nothing else is. */
    private static void number(Sentences s, String name, ToIntBiFunction<RetryChains, Integer> asked) {
        s.holds("`chain`: number of an open chain", due -> {
            RetryChains x = threeKinds();
            for (int chain = 3; chain < 6; chain++) {
                due.is("lay(0, 1)", x.lay(0, 1), chain);
            }
            due.range(name, chain -> asked.applyAsInt(x, chain), 0, 5);
        });
    }

    private static void noChain(Sentences s, String sentence, String name, ToIntBiFunction<RetryChains, Integer> asked) {
        s.holds(sentence, due -> {
            RetryChains x = threeKinds();
            due.bad(name + " of a chain that was never open", chain -> asked.applyAsInt(x, chain), 3, 4, 5);
            due.bad(name + " of no chain", chain -> asked.applyAsInt(x, chain), -1, 6, -9, MIN, MAX);
            x.report(1, 1, true);
            due.bad(name + " of a closed chain", chain -> asked.applyAsInt(x, chain), 1);
            due.is(name + "(0)", asked.applyAsInt(x, 0) == BAD ? 1 : 0, 0);
            x.undo();
            due.is(name + "(1) after undo()", asked.applyAsInt(x, 1) == BAD ? 1 : 0, 0);
            RetryChains empty = new RetryChains();
            due.bad(name + " of a new object", chain -> asked.applyAsInt(empty, chain), 0, 5);
        });
    }

    private static void kind(Sentences s) {
        s.in("Promise 15");
        s.said("Returns the kind of an open chain");
        number(s, "kind", RetryChains::kind);
        s.holds("Returns 0 plain, 1 sampling, 2 fallback", due -> {
            RetryChains x = threeKinds();
            due.row("kind", x::kind, 0, 1, 2, BAD);
            Due.tries(x, 1, 0, 1);
            x.setShare(0);
            due.row("kind: it stays", x::kind, 0, 1, 2, BAD);
            x.report(1, 1, true);
            x.lay(0, 1);
            due.is("kind(1) of another chain", x.kind(1), 0);
        });
        noChain(s, "BAD if there is no such open chain", "kind", RetryChains::kind);
    }

    private static void stationOf(Sentences s) {
        s.in("Promise 16");
        s.said("Returns the station of an open chain");
        number(s, "stationOf", RetryChains::stationOf);
        s.holds("Returns the station; BAD", due -> {
            RetryChains x = Due.network(4, 1, 540);
            for (int chain = 0; chain < 4; chain++) {
                x.lay(3 - chain, 1);
            }
            due.row("stationOf", x::stationOf, 3, 2, 1, 0, BAD);
            x.report(1, 1, true);
            x.lay(0, 1);
            due.is("stationOf(1) of another chain", x.stationOf(1), 0);
        });
        noChain(s, "BAD if there is no such open chain", "stationOf", RetryChains::stationOf);
    }

    private static void entryRate(Sentences s) {
        s.in("Promise 17");
        s.said("Returns the rate of an entry");
        number(s, "entryRate(.., 0)", (x, chain) -> x.entryRate(chain, 0));
        s.holds("`entry`: 0 to 3", due -> {
            RetryChains x = threeKinds();
            due.range("entryRate(0, ..)", entry -> x.entryRate(0, entry), 0, 3);
            due.range("entryRate(2, ..)", entry -> x.entryRate(2, entry), 0, 3);
        });
        s.holds("Returns the rate; BAD", due -> {
            RetryChains x = threeKinds();
            due.row("entryRate(0, ..)", entry -> x.entryRate(0, entry), 0, 1, 0, 2, BAD);
            due.row("entryRate(1, ..)", entry -> x.entryRate(1, entry), 0, 2, 0, 2, BAD);
            due.row("entryRate(2, ..)", entry -> x.entryRate(2, entry), 0, 2, 2, 2, BAD);
        });
        noChain(s, "BAD if there is no such open chain", "entryRate(.., 3)", (x, chain) -> x.entryRate(chain, 3));
        s.holds("BAD if there is no such open chain or entry", due -> {
            RetryChains x = threeKinds();
            due.bad("entryRate(1, ..)", entry -> x.entryRate(1, entry), -1, 4, 5, MIN, MAX);
            due.is("entryRate(3, 4)", x.entryRate(3, 4), BAD);
        });
    }

    private static void entryTries(Sentences s) {
        s.in("Promise 18");
        s.said("Returns the number of tries of an entry");
        number(s, "entryTries(.., 0)", (x, chain) -> x.entryTries(chain, 0));
        s.holds("`entry`: 0 to 3", due -> {
            RetryChains x = threeKinds();
            due.range("entryTries(0, ..)", entry -> x.entryTries(0, entry), 0, 3);
            due.range("entryTries(2, ..)", entry -> x.entryTries(2, entry), 0, 3);
        });
        s.holds("Returns the number; BAD", due -> {
            RetryChains x = threeKinds();
            due.row("entryTries(0, ..)", entry -> x.entryTries(0, entry), 6, 6, 6, 6, BAD);
            // at 4000 bytes the rate (1, 240) takes 1420, (1, 60) takes 5420
            due.row("entryTries(1, ..)", entry -> x.entryTries(1, entry), 3, 1, 3, 1, BAD);
            x.setBudget(100000);
            x.lay(0, 4000);
            due.row("entryTries(3, ..)", entry -> x.entryTries(3, entry), 7, 7, 7, 7, BAD);
            x.setBudget(100);
            x.lay(0, 1);
            due.row("entryTries(4, ..)", entry -> x.entryTries(4, entry), 1, 1, 1, 1, BAD);
        });
        noChain(s, "BAD if there is no such open chain", "entryTries(.., 3)", (x, chain) -> x.entryTries(chain, 3));
        s.holds("BAD if there is no such open chain or entry", due -> {
            RetryChains x = threeKinds();
            due.bad("entryTries(1, ..)", entry -> x.entryTries(1, entry), -1, 4, 5, MIN, MAX);
            due.is("entryTries(3, 4)", x.entryTries(3, 4), BAD);
        });
    }

    private static void tag(Sentences s) {
        s.in("Promise 19");
        s.said("Returns the tag of an open chain", "Returns the tag; BAD");
        s.holds("4 * size + station for a plain one", due -> {
            RetryChains x = Due.network(4, 1, 540);
            x.lay(0, 1);
            x.lay(3, 4000);
            x.lay(2, 123);
            due.row("tag", x::tag, 4, 16003, 494, BAD);
        });
        s.holds("3 times that plus the candidate for a sampling one", due -> {
            // the first draw of station 3 is 42762, of 8 rates 2; that of station 1 is 3634, of 8 rates 2
            RetryChains x = Due.network(4, 1, 240, 1, 240, 1, 60, 1, 540, 1, 540, 1, 540, 1, 540, 1, 540);
            x.setShare(50);
            x.lay(3, 1);
            x.lay(3, 4000);
            x.lay(1, 1);
            x.lay(1, 1);
            // the first draw of station 0 is 16838, of 8 rates 6, which is faster than first
            x.lay(0, 10);
            x.lay(0, 10);
            due.row("tag", x::tag, 7, 3 * 16003 + 2, 5, 3 * 5 + 2, 40, 3 * 40 + 6);
        });
        s.holds("4 * size + station + 100000 for a fallback one", due -> {
            RetryChains x = Due.network(4, 1, 540);
            Due.tries(x, 0, 0, 0, 0, 0);
            Due.tries(x, 3, 0, 0, 0, 0);
            x.lay(0, 1);
            x.lay(3, 4000);
            due.row("tag", x::tag, 100004, 116003, BAD);
        });
        number(s, "tag", RetryChains::tag);
        noChain(s, "BAD if there is no such open chain", "tag", RetryChains::tag);
    }

    /** Two entries at rate 0 and two at rate 1, two tries each: 327 and 399, 551 and 623. */
    private static RetryChains eightTries() {
        RetryChains x = Due.network(2, 1, 540, 1, 240);
        x.setBudget(1174);
        Due.teach(x, 0, 0, 3);
        x.lay(0, 1200);
        return x;
    }

    private static void deliveryChance(Sentences s) {
        s.in("Promise 20");
        s.said("for each try of each entry, in order, it becomes fail * (65536 - estimate) / 65536");
        s.holds("by the present estimates of its station (a missing one counts as 0)", due -> {
            RetryChains x = Due.network(2, 1, 540, 1, 240);
            x.setBudget(1174);
            x.lay(0, 1200);
            due.is("no estimates", x.deliveryChance(0), 0);
            Due.teach(x, 1, 0, 1);
            due.is("estimates of another station", x.deliveryChance(0), 0);
            Due.teach(x, 0, 1, 2);
            due.is("four tries of 1 / 2", x.deliveryChance(0), 65536 - 4096);
            Due.teach(x, 0, 1, 1);
            due.is("the present estimates", x.estimate(0, 1), 40960);
            due.is("four tries of 5 / 8", x.deliveryChance(0), 65536 - 1296);
            Due.teach(x, 0, 0, 0);
            due.is("an estimate of 0", x.deliveryChance(0), 65536 - 1296);
        });
        s.holds("fail is 65536 at first; for each try of each entry, in order", due -> {
            RetryChains x = Due.network(1, 1, 540, 1, 240);
            x.setBudget(1174);
            Due.teach(x, 0, 0, 3);
            Due.teach(x, 0, 1, 2, 4, 4);
            x.lay(0, 1200);
            due.row("entryRate(0, ..)", entry -> x.entryRate(0, entry), 0, 1, 0, 1);
            due.row("entryTries(0, ..)", entry -> x.entryTries(0, entry), 2, 2, 2, 2);
            due.row("estimate(0, ..)", rate -> x.estimate(0, rate), 21845, 19660);
            long fail = 65536;
            for (int estimate : new int[] {21845, 21845, 19660, 19660, 21845, 21845, 19660, 19660}) {
                fail = fail * (65536 - estimate) / 65536;
            }
            due.is("deliveryChance(0), rounded at each try", x.deliveryChance(0), 65536 - fail);
        });
        s.holds("the result is 65536 - fail", due -> {
            RetryChains x = Due.network(1, 1, 540);
            x.setBudget(100);
            Due.teach(x, 0, 0, 0);
            x.lay(0, 1);
            due.is("0", x.deliveryChance(0), 0);
            Due.teach(x, 0, 0, 1);
            due.is("1 / 4 for each of four tries", x.deliveryChance(0), 65536 - 20736);
            Due.teach(x, 0, 0, 1);
            due.is("65536", x.deliveryChance(0), 65536);
        });
        number(s, "deliveryChance", RetryChains::deliveryChance);
        noChain(s, "BAD if there is no such open chain", "deliveryChance", RetryChains::deliveryChance);
        s.said("Returns the probability; BAD");
    }

    private static void expectedTime(Sentences s) {
        s.in("Promise 21");
        s.said("Returns the expected time of the tries of an open chain", "Returns the expected time; BAD");
        s.holds("reach is 65536 and sum is 0 at first", due -> {
            RetryChains x = Due.network(1, 1, 540);
            Due.teach(x, 0, 0, 1);
            x.lay(0, 1200);
            due.is("the first try alone", x.expectedTime(0), 327);
            RetryChains y = Due.network(1, 1, 540);
            y.setBudget(726);
            y.lay(0, 1200);
            due.is("all tries", y.expectedTime(0), 4 * 726);
        });
        s.holds("for each try of each entry, in order, sum increases by reach * (time of this try), and then reach becomes "
                + "reach * (65536 - estimate) / 65536", due -> {
            RetryChains x = eightTries();
            int[] rates = {x.entryRate(0, 0), x.entryRate(0, 1), x.entryRate(0, 2), x.entryRate(0, 3)};
            int[][] times = {{327, 399}, {551, 623}};
            long reach = 65536;
            long sum = 0;
            for (int attempt = 0; attempt < 8; attempt++) {
                int rate = rates[attempt / 2];
                sum += reach * times[rate][attempt % 2];
                reach = reach * (rate == 0 ? 65536 - 21845 : 65536) / 65536;
            }
            due.is("rates", rates[0] * 1000 + rates[1] * 100 + rates[2] * 10 + rates[3], 101);
            due.is("expectedTime(0)", x.expectedTime(0), sum / 65536);
            x.setBudget(100);
            Due.teach(x, 0, 1, 1);
            due.is("by the present estimates, and by the tries that were laid", x.expectedTime(0),
                (65536L * 327 + 43691L * 399 + 29127L * 551) / 65536);
        });
        s.holds("the result is sum / 65536", due -> {
            // 28 tries of 32252 and more: sum is far above 2147483647
            RetryChains x = Due.network(1, 0, 10);
            x.setBudget(100000);
            x.lay(0, 4000);
            due.is("entryTries(0, 0)", x.entryTries(0, 0), 3);
            due.is("expectedTime(0)", x.expectedTime(0), 4 * (3 * 32252 + 67 + 139 + 283));
            Due.teach(x, 0, 0, 4);
            long sum = 0;
            long reach = 65536;
            for (int attempt = 0; attempt < 12; attempt++) {
                sum += reach * (32252 + new int[] {67, 139, 283}[attempt % 3]);
                reach = reach * 49152 / 65536;
            }
            due.is("rounded down", x.expectedTime(0), sum / 65536);
            // 16 of 17 succeed; four tries of 4097: 4097 * (65536 + 3856 + 226 + 13) is 4353 * 65536 - 1
            x = Due.network(1, 0, 80);
            x.setBudget(100);
            Due.teach(x, 0, 0, 1, 1, 1, 1, 1, 1, 1, 1, 1, 1, 1, 1, 1, 1, 1, 2);
            due.is("estimate(0, 0)", x.estimate(0, 0), 61680);
            x.lay(0, 3778);
            due.is("just below 4353", x.expectedTime(0), 4352);
        });
        number(s, "expectedTime", RetryChains::expectedTime);
        noChain(s, "BAD if there is no such open chain", "expectedTime", RetryChains::expectedTime);
    }
}
