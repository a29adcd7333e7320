/** The sentences under STATIONS and VALUES AND ROLES. */
final class StationSentences {
    private static final int BAD = Due.BAD, STATE = Due.STATE, FULL = Due.FULL, NONE = Due.NONE;
    private static final int[] ALL = {1}, HALF = {2}, THIRD = {3}, LOST = {0};
    /** 19 of 20 succeed: 62259. */
    private static final int[] SURE = {1, 1, 1, 1, 1, 1, 1, 1, 1, 1, 1, 1, 1, 1, 1, 1, 1, 1, 2};
    /** 1 of 10 succeeds: 6553. */
    private static final int[] TENTH = {0, 0, 2};

    private StationSentences() {
    }

    static void hold(Sentences s) {
        rows(s);
        station(s);
        draws(s);
        values(s);
        first(s);
        second(s);
        surest(s);
        slowest(s);
        whenRolesAreFilled(s);
    }

    private static void rows(Sentences s) {
        s.in("STATIONS");
        s.said("For each station and each rate there are");
        s.holds("There are at most 4 stations, numbered from 0", due -> {
            RetryChains x = new RetryChains();
            for (int station = 0; station < 4; station++) {
                due.is("chains of a station before it is added", x.chains(station), BAD);
                due.is("addStation()", x.addStation(), station);
            }
            due.is("a fifth station", x.addStation(), FULL);
            due.is("chains(4)", x.chains(4), BAD);
            due.is("chains(3)", x.chains(3), 0);
        });
        s.holds("whether the rate is allowed (at first it is", due -> {
            RetryChains x = Due.network(2, 1, 540, 1, 240);
            due.is("allow(0, 0, false)", x.allow(0, 0, false), 1);
            due.is("allow(0, 1, false)", x.allow(0, 1, false), 1);
            due.is("allow(1, 0, true)", x.allow(1, 0, true), 1);
            due.is("lay(1, 1)", x.lay(1, 1), 0);
        });
        s.holds("this holds for rates that are added later, too", due -> {
            RetryChains x = Due.network(1, 1, 540);
            x.allow(0, 0, false);
            due.is("lay(0, 1)", x.lay(0, 1), STATE);
            x.addRate(1, 240);
            due.is("lay(0, 1)", x.lay(0, 1), 0);
            due.is("entryRate(0, 0)", x.entryRate(0, 0), 1);
            due.is("allow(0, 1, true)", x.allow(0, 1, true), 1);
        });
        s.holds("an estimate of the success probability (none at first)", due -> {
            RetryChains x = Due.network(2, 1, 540);
            x.addRate(1, 240);
            due.is("estimate(0, 0)", x.estimate(0, 0), NONE);
            due.is("estimate(1, 0)", x.estimate(1, 0), NONE);
            due.is("estimate(1, 1)", x.estimate(1, 1), NONE);
            due.is("throughput(1, 1, 1)", x.throughput(1, 1, 1), NONE);
        });
        s.holds("the tries and successes of the present interval, the tries and successes in all", due -> {
            RetryChains x = Due.network(2, 1, 540);
            due.is("update(0)", x.update(0), 0);
            due.is("triesOf(0, 0)", x.triesOf(0, 0), 0);
            due.is("successesOf(0, 0)", x.successesOf(0, 0), 0);
            Due.teach(x, 0, 0, 2);
            Due.teach(x, 0, 0, 1, 1);
            due.is("tries in all", x.triesOf(0, 0), 4);
            due.is("successes in all", x.successesOf(0, 0), 3);
            due.is("those of the interval: 65536 after 32768", x.estimate(0, 0), 40960);
            due.is("triesOf(1, 0)", x.triesOf(1, 0), 0);
        });
        s.holds("a tendency (-1, 0 or 1; 0 at first)", due -> {
            RetryChains x = Due.network(1, 1, 540, 1, 240);
            Due.teach(x, 0, 0, ALL);
            Due.teach(x, 0, 0, LOST);
            due.is("a first jump down is averaged", x.estimate(0, 0), 49152);
            Due.teach(x, 0, 1, LOST);
            Due.teach(x, 0, 1, ALL);
            due.is("a first jump up is averaged", x.estimate(0, 1), 16384);
            due.is("events()", x.events(), 0);
        });
        s.holds("and the quality of the simulated channel (0 to 1000, 500 at first)", due -> {
            RetryChains x = Due.network(2, 1, 540);
            x.addRate(1, 240);
            for (int station = 0; station < 2; station++) {
                due.is("setQuality(.., 0, 0)", x.setQuality(station, 0, 0), 500);
                due.is("setQuality(.., 1, 1000)", x.setQuality(station, 1, 1000), 500);
            }
            due.range("setQuality(0, 0, ..)", quality -> x.setQuality(0, 0, quality), 0, 1000);
        });
    }

    private static void station(Sentences s) {
        s.holds("the number of its chains, how many of them were sampling chains, how many of its frames were delivered and "
                + "how many were lost", due -> {
            RetryChains x = Due.network(4, 1, 540);
            for (int station = 0; station < 4; station++) {
                due.is("chains", x.chains(station), 0);
                due.is("sampled", x.sampled(station), 0);
                due.is("delivered", x.delivered(station), 0);
                due.is("lost", x.lost(station), 0);
            }
        });
        s.holds("losses in succession", due -> {
            RetryChains x = Due.network(2, 1, 540);
            Due.tries(x, 0, 0, 0, 0);
            due.is("none at first: two losses do nothing", x.inFallback(0), 0);
            Due.tries(x, 1, 0, 0);
            due.is("each station has its own", x.inFallback(0) + x.inFallback(1), 0);
            Due.tries(x, 0, 0, 0);
            due.is("the third one", x.inFallback(0), 1);
        });
        s.holds("whether it is in fallback (at first it is not)", due -> {
            RetryChains x = Due.network(1, 1, 540);
            due.is("inFallback(0)", x.inFallback(0), 0);
            x.lay(0, 1);
            due.is("kind(0)", x.kind(0), 0);
            x.report(0, 1, true);
            due.is("no fallback ends", x.events(), 0);
        });
        s.holds("a queue of at most 8 frames", due -> {
            RetryChains x = Due.network(2, 1, 540);
            due.is("queued(0)", x.queued(0), 0);
            for (int frame = 1; frame <= 8; frame++) {
                due.is("enqueue(0, 1)", x.enqueue(0, 1), frame);
            }
            due.is("a ninth frame", x.enqueue(0, 1), FULL);
            due.is("queued(0)", x.queued(0), 8);
            due.is("the queue of another station", x.enqueue(1, 1), 1);
            x.dispatch();
            due.is("stationOf(0)", x.stationOf(0), 0);
            due.is("enqueue(0, 1) then", x.enqueue(0, 1), 8);
        });
        s.holds("a deficit of air time (0 at first)", due -> {
            RetryChains x = Due.network(2, 1, 540);
            due.is("deficit(0)", x.deficit(0), 0);
            x.enqueue(1, 1);
            x.dispatch();
            due.is("deficit(1): 0 is not enough, 4000 is", x.deficit(1), 4000);
            due.is("deficit(0)", x.deficit(0), 0);
        });
        s.holds("the end of its present interval", due -> {
            RetryChains x = new RetryChains();
            x.setInterval(2000);
            x.addRate(1, 540);
            x.addStation();
            x.pass(600);
            x.addStation();
            Due.tries(x, 0, 0, 1);
            Due.tries(x, 1, 0, 1);
            x.pass(2000 - x.time());
            due.is("estimate(0, 0) at 2000", x.estimate(0, 0), 65536);
            due.is("estimate(1, 0) at 2000", x.estimate(1, 0), NONE);
            x.pass(600);
            due.is("estimate(1, 0) at 2600", x.estimate(1, 0), 65536);
        });
        s.said("A station has besides");
    }

    /** The first draws from 1, 8, 15 and 22 are 16838, 3634, 55966 and 42762: of 5 rates 3, 4, 1 and 2. */
    private static void draws(Sentences s) {
        s.holds("a draw state x, an int, which is 7 * (number of the station) + 1 at first", due -> {
            RetryChains x = Due.network(4, 1, 540, 1, 540, 1, 540, 1, 540, 1, 540);
            x.setShare(50);
            int[] candidates = {3, 4, 1, 2};
            for (int station = 0; station < 4; station++) {
                int first = x.lay(station, 10);
                int chain = x.lay(station, 10);
                int plain = 40 + station;
                boolean isSecond = candidates[station] == 1;
                due.is("tag", x.tag(chain), isSecond ? plain : 3 * plain + candidates[station]);
                due.is("refusal(.., 2)", x.refusal(station, 2), isSecond ? 22 : NONE);
                x.report(first, 1, true);
                x.report(chain, 1, true);
            }
        });
    }

    private static void values(Sentences s) {
        s.in("VALUES AND ROLES");
        s.holds("The value of a rate for a station is 0 if it has no estimate", due -> {
            RetryChains x = Due.network(1, 1, 540, 1, 60);
            Due.teach(x, 0, 1, TENTH);
            due.is("no estimate, and one of 6553: the slower one", x.bestOfMode(0, 1), 1);
            x = Due.network(1, 1, 60, 1, 540);
            Due.teach(x, 0, 1, HALF);
            due.is("no estimate, and one of 32768", x.bestOfMode(0, 1), 1);
            x.allow(0, 1, false);
            due.is("no other", x.bestOfMode(0, 1), 0);
        });
        s.holds("or an estimate below 6554", due -> {
            RetryChains x = Due.network(1, 1, 60, 1, 540);
            Due.teach(x, 0, 1, TENTH);
            due.is("estimate(0, 1)", x.estimate(0, 1), 6553);
            due.is("6553 has none", x.bestOfMode(0, 1), 0);
            x.setWeight(1);
            Due.teach(x, 0, 1, 0, 0, 3, 0, 0, 4, 0, 0, 4, 4);
            due.is("estimate(0, 1)", x.estimate(0, 1), 6554);
            due.is("6554 has one", x.bestOfMode(0, 1), 1);
        });
        s.holds("otherwise it is min(estimate, 58982) * 9600 / (its nominal air time)", due -> {
            RetryChains x = Due.network(1, 1, 240, 1, 240);
            Due.teach(x, 0, 0, 1, 1, 1, 1, 1, 1, 1, 1, 2);
            Due.teach(x, 0, 1, ALL);
            due.is("estimate(0, 0)", x.estimate(0, 0), 58982);
            due.is("58982 and 65536 are worth the same", x.bestOfMode(0, 1), 0);
            x = Due.network(1, 1, 240, 1, 240);
            x.setWeight(30);
            Due.teach(x, 0, 0, 1, 1, 1, 1, 1, 2);
            Due.teach(x, 0, 0, ALL);
            Due.teach(x, 0, 1, ALL);
            due.is("estimate(0, 0)", x.estimate(0, 0), 58981);
            due.is("58981 is worth less", x.bestOfMode(0, 1), 1);
            x = Due.network(1, 1, 560, 1, 1203);
            Due.teach(x, 0, 0, 1, 1, 1, 1, 2, 2, 2);
            Due.teach(x, 0, 1, 2, 2, 2, 3);
            due.is("45875 * 9600 / 252 = 1747619, 29127 * 9600 / 160 = 1747620", x.role(0, 0), 1);
            x = Due.network(1, 1, 482, 0, 1055);
            Due.teach(x, 0, 0, 1, 2, 2, 2);
            Due.teach(x, 0, 1, 1, 1, 1, 1, 2, 2, 2);
            due.is("37449 * 9600 / 280 = 45875 * 9600 / 343, rounded down", x.role(0, 0), 1);
        });
        s.holds("In the following an estimate that is missing counts as 0", due -> {
            RetryChains x = Due.network(1, 1, 540, 1, 540);
            Due.teach(x, 0, 1, LOST);
            rolesAre(due, x, 0, 1, 0, 0);
            x = Due.network(1, 1, 540, 1, 540);
            Due.teach(x, 0, 0, LOST);
            rolesAre(due, x, 0, 1, 0, 0);
        });
        s.holds("Four roles of a station are filled by its allowed rates", due -> {
            RetryChains x = Due.network(1, 1, 240, 1, 120, 1, 60, 1, 540);
            Due.teach(x, 0, 2, ALL);
            rolesAre(due, x, 2, 0, 2, 2);
            x.allow(0, 2, false);
            rolesAre(due, x, 0, 1, 0, 1);
            due.is("first of another station", Due.network(1, 1, 60).role(0, 0), 0);
        });
    }

    private static void rolesAre(Due due, RetryChains x, int first, int second, int surest, int slowest) {
        due.row("role(0, ..)", role -> x.role(0, role), first, second, surest, slowest);
    }

    private static void first(Sentences s) {
        s.holds("- first: the rate with the greatest value", due -> {
            RetryChains x = Due.network(1, 1, 60, 1, 540, 1, 240);
            Due.teach(x, 0, 0, ALL);
            Due.teach(x, 0, 1, THIRD);
            Due.teach(x, 0, 2, HALF);
            due.is("336221, 806596 and 649932", x.role(0, 0), 1);
        });
        s.holds("- first: .. of several the one with the greatest estimate", due -> {
            RetryChains x = Due.network(1, 1, 240, 1, 240, 1, 240);
            Due.teach(x, 0, 0, SURE);
            Due.teach(x, 0, 1, ALL);
            due.is("of equal values", x.role(0, 0), 1);
            x = Due.network(1, 1, 540, 1, 60);
            Due.teach(x, 0, 1, TENTH);
            due.is("of values of 0", x.role(0, 0), 1);
        });
        s.holds("- first: .. of several the one with the smallest number", due -> {
            RetryChains x = Due.network(1, 1, 240, 1, 240, 1, 240);
            Due.teach(x, 0, 2, ALL);
            Due.teach(x, 0, 1, ALL);
            due.is("role(0, 0)", x.role(0, 0), 1);
        });
    }

    private static void second(Sentences s) {
        s.holds("- second: the same among the other allowed rates", due -> {
            RetryChains x = Due.network(1, 1, 60, 1, 540, 1, 240);
            Due.teach(x, 0, 0, ALL);
            Due.teach(x, 0, 1, THIRD);
            Due.teach(x, 0, 2, HALF);
            due.is("the greatest value", x.role(0, 1), 2);
            x.allow(0, 2, false);
            due.is("of those that are allowed", x.role(0, 1), 0);
            x = Due.network(1, 1, 540, 1, 240, 1, 240, 1, 240);
            Due.teach(x, 0, 0, ALL);
            Due.teach(x, 0, 1, SURE);
            Due.teach(x, 0, 2, ALL);
            Due.teach(x, 0, 3, ALL);
            due.is("the greatest estimate, the smallest number", x.role(0, 1), 2);
        });
        s.holds("first itself if there are no others", due -> {
            RetryChains x = Due.network(1, 1, 540);
            due.is("one rate", x.role(0, 1), 0);
            x.addRate(1, 240);
            due.is("two rates", x.role(0, 1), 1);
            x.allow(0, 0, false);
            due.is("one allowed rate", x.role(0, 1), 1);
        });
    }

    private static void surest(Sentences s) {
        s.holds("- surest: if some allowed rates have estimates of 62259 or more, the same as for first among these", due -> {
            RetryChains x = Due.network(1, 1, 540, 1, 60, 1, 240);
            Due.teach(x, 0, 1, ALL);
            Due.teach(x, 0, 0, SURE);
            due.is("estimate(0, 0)", x.estimate(0, 0), 62259);
            due.is("62259 is enough", x.role(0, 2), 0);
            x.allow(0, 0, false);
            due.is("it has to be allowed", x.role(0, 2), 1);
            x = Due.network(1, 1, 540, 1, 60, 1, 240);
            x.setWeight(60);
            Due.teach(x, 0, 1, ALL);
            Due.teach(x, 0, 0, ALL);
            Due.teach(x, 0, 0, 1, 1, 1, 1, 1, 1, 1, 1, 1, 1, 2);
            due.is("estimate(0, 0)", x.estimate(0, 0), 62258);
            due.is("62258 is not", x.role(0, 2), 1);
            x = Due.network(1, 1, 60, 1, 60, 1, 60);
            Due.teach(x, 0, 0, SURE);
            Due.teach(x, 0, 1, ALL);
            Due.teach(x, 0, 2, ALL);
            due.is("of equal values the greatest estimate, then the smallest number", x.role(0, 2), 1);
        });
        s.holds("- surest: .. otherwise the rate with the greatest estimate", due -> {
            RetryChains x = Due.network(1, 1, 540, 1, 60);
            Due.teach(x, 0, 0, THIRD);
            Due.teach(x, 0, 1, HALF);
            due.is("role(0, 0)", x.role(0, 0), 0);
            due.is("role(0, 2)", x.role(0, 2), 1);
        });
        s.holds("- surest: .. of several the one with the greatest value", due -> {
            RetryChains x = Due.network(1, 1, 60, 1, 240, 1, 540);
            Due.teach(x, 0, 0, HALF);
            Due.teach(x, 0, 1, HALF);
            Due.teach(x, 0, 2, THIRD);
            due.is("role(0, 2)", x.role(0, 2), 1);
        });
        s.holds("- surest: .. of several the smallest number", due -> {
            RetryChains x = Due.network(1, 1, 60, 1, 240, 1, 240);
            Due.teach(x, 0, 2, HALF);
            Due.teach(x, 0, 1, HALF);
            due.is("role(0, 2)", x.role(0, 2), 1);
            due.is("without estimates", Due.network(1, 1, 60, 1, 540).role(0, 2), 0);
        });
    }

    private static void slowest(Sentences s) {
        s.holds("- slowest: the rate with the greatest nominal air time", due -> {
            // 884, 820 and 1052, though the speeds are 120, 120 and 120
            RetryChains x = Due.network(1, 1, 120, 2, 120, 0, 120);
            due.is("role(0, 3)", x.role(0, 3), 2);
            Due.teach(x, 0, 2, ALL);
            due.is("whatever its estimate", x.role(0, 3), 2);
            x.allow(0, 2, false);
            due.is("role(0, 3)", x.role(0, 3), 0);
        });
        s.holds("- slowest: .. of several the one with the smallest number", due -> {
            RetryChains x = Due.network(1, 1, 540, 1, 60, 0, 10, 0, 10);
            due.is("role(0, 3)", x.role(0, 3), 2);
            x.allow(0, 2, false);
            due.is("role(0, 3)", x.role(0, 3), 3);
        });
        s.holds("Without allowed rates the roles are empty", due -> {
            RetryChains x = Due.network(1, 1, 540, 1, 60);
            x.allow(0, 0, false);
            rolesAre(due, x, 1, 1, 1, 1);
            x.allow(0, 1, false);
            rolesAre(due, x, NONE, NONE, NONE, NONE);
            rolesAre(due, Due.network(1), NONE, NONE, NONE, NONE);
        });
    }

    private static void whenRolesAreFilled(Sentences s) {
        s.holds("The roles of a station are filled anew when the station is added", due ->
            rolesAre(due, Due.network(1, 1, 540, 0, 10), 0, 1, 0, 1));
        s.holds("by each update of the station", due -> {
            RetryChains x = Due.network(2, 1, 540, 0, 10);
            Due.tries(x, 0, 1, 1);
            due.is("role(0, 0)", x.role(0, 0), 0);
            x.update(1);
            due.is("role(0, 0) after that of another station", x.role(0, 0), 0);
            x.update(0);
            rolesAre(due, x, 1, 0, 1, 1);
        });
        s.holds("and by allow() for it", due -> {
            RetryChains x = Due.network(2, 1, 540, 0, 10);
            x.allow(0, 0, false);
            rolesAre(due, x, 1, 1, 1, 1);
            due.is("role(1, 0)", x.role(1, 0), 0);
            x.allow(0, 0, true);
            rolesAre(due, x, 0, 1, 0, 1);
        });
        s.holds("those of all stations also by addRate()", due -> {
            RetryChains x = Due.network(4);
            x.addRate(1, 540);
            x.addRate(0, 10);
            for (int station = 0; station < 4; station++) {
                due.is("role(.., 0)", x.role(station, 0), 0);
                due.is("role(.., 1)", x.role(station, 1), 1);
                due.is("role(.., 3)", x.role(station, 3), 1);
            }
        });
        s.holds("They stay as they are in between", due -> {
            RetryChains x = Due.network(1, 1, 540, 0, 10);
            x.setQuality(0, 0, 0);
            x.setQuality(0, 1, 1000);
            due.is("simulate(0, 20, 100, 3)", x.simulate(0, 20, 100, 3), 20);
            x.pass(500000);
            x.setWeight(100);
            rolesAre(due, x, 0, 1, 0, 1);
            x.update(0);
            rolesAre(due, x, 1, 0, 1, 1);
        });
    }
}
