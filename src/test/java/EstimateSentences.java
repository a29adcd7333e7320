import java.util.function.ToIntBiFunction;

/** The sentences of the promises 22 to 32. */
final class EstimateSentences {
    private static final int BAD = Due.BAD, OVERFLOW = Due.OVERFLOW, NONE = Due.NONE;
    private static final int MAX = Integer.MAX_VALUE, MIN = Integer.MIN_VALUE;
    /** 19 of 20 succeed: 62259, worth as much as certainty. */
    private static final int[] SURE = {1, 1, 1, 1, 1, 1, 1, 1, 1, 1, 1, 1, 1, 1, 1, 1, 1, 1, 2};

    private EstimateSentences() {
    }

    static void hold(Sentences s) {
        estimate(s);
        triesOf(s);
        successesOf(s);
        airTime(s);
        throughput(s);
        role(s);
        refusal(s);
        rateOfMode(s);
        bestOfMode(s);
        mostUsed(s);
        bestChain(s);
        bestChainAnswers(s);
    }

    private static void station(Sentences s, String name, ToIntBiFunction<RetryChains, Integer> asked) {
        s.holds("`station`: number of a station", due -> {
            RetryChains x = Due.network(3, 1, 540);
            due.range(name, station -> asked.applyAsInt(x, station), 0, 2);
            RetryChains y = Due.network(4, 1, 540);
            due.range(name, station -> asked.applyAsInt(y, station), 0, 3);
        });
    }

    private static void rate(Sentences s, String name, ToIntBiFunction<RetryChains, Integer> asked) {
        s.holds("`rate`: number of a rate", due -> {
            RetryChains x = Due.network(1, 1, 540, 1, 240);
            due.range(name, rate -> asked.applyAsInt(x, rate), 0, 1);
            RetryChains y = Due.network(1, 1, 540, 1, 540, 1, 540, 1, 540, 1, 540, 1, 540, 1, 540, 1, 540);
            due.range(name, rate -> asked.applyAsInt(y, rate), 0, 7);
        });
    }

    private interface OfStationAndRate {
        int of(RetryChains x, int station, int rate);
    }

    private static void noStationOrRate(Sentences s, String name, OfStationAndRate asked) {
        s.holds("BAD if there is no such station or rate", due -> {
            RetryChains x = Due.network(2, 1, 540, 1, 240, 1, 60);
            due.bad(name + "(.., 0)", station -> asked.of(x, station, 0), 2, 3, 4, -1, MIN, MAX);
            due.bad(name + "(0, ..)", rate -> asked.of(x, 0, rate), 3, 7, 8, -1, MIN, MAX);
            due.is(name + "(2, 3)", asked.of(x, 2, 3), BAD);
            due.is("turned round", asked.of(x, 1, 2) == BAD ? 1 : 0, 0);
            due.is("turned round", asked.of(x, 2, 1), BAD);
        });
    }

    private static void estimate(Sentences s) {
        s.in("Promise 22");
        s.said("Returns an estimate.");
        station(s, "estimate(.., 0)", (x, station) -> x.estimate(station, 0));
        rate(s, "estimate(0, ..)", (x, rate) -> x.estimate(0, rate));
        s.holds("Returns the estimate, 0 to 65536", due -> {
            RetryChains x = Due.network(2, 1, 540, 1, 240, 1, 60);
            Due.teach(x, 1, 0, 0);
            Due.teach(x, 1, 1, 1);
            Due.teach(x, 1, 2, 3);
            due.row("estimate(1, ..)", rate -> x.estimate(1, rate), 0, 65536, 21845);
            due.row("estimate(0, ..)", rate -> x.estimate(0, rate), NONE, NONE, NONE);
        });
        noStationOrRate(s, "estimate", RetryChains::estimate);
        s.holds("NONE if there is none", due -> {
            RetryChains x = Due.network(1, 1, 540, 1, 240);
            due.is("at first", x.estimate(0, 0), NONE);
            Due.tries(x, 0, 0, 1);
            due.is("before the update", x.estimate(0, 0), NONE);
            x.update(0);
            due.is("after it", x.estimate(0, 0), 65536);
            due.is("of a rate without tries", x.estimate(0, 1), NONE);
        });
    }

    private static void triesOf(Sentences s) {
        s.in("Promise 23");
        s.holds("Returns the tries of a station at a rate in all", due -> {
            RetryChains x = Due.network(2, 1, 540, 1, 240);
            due.is("at first", x.triesOf(0, 0), 0);
            Due.tries(x, 0, 0, 0, 3);
            due.is("4 and 3", x.triesOf(0, 0), 7);
            x.update(0);
            due.is("an update does not matter", x.triesOf(0, 0), 7);
            due.is("triesOf(0, 1)", x.triesOf(0, 1), 0);
            due.is("triesOf(1, 0)", x.triesOf(1, 0), 0);
            x.setQuality(1, 0, 0);
            x.setQuality(1, 1, 0);
            x.setShare(0);
            x.setBudget(100);
            due.is("50 lost frames", x.simulate(1, 50, 1, 1), 0);
            due.is("two tries before the fallback, then one", x.triesOf(1, 0), 3 * 2 + 47);
            due.is("two tries before the fallback, then three", x.triesOf(1, 1), 3 * 2 + 47 * 3);
        });
        s.said("Returns the number of tries");
        station(s, "triesOf(.., 0)", (x, station) -> x.triesOf(station, 0));
        rate(s, "triesOf(0, ..)", (x, rate) -> x.triesOf(0, rate));
        noStationOrRate(s, "triesOf", RetryChains::triesOf);
    }

    private static void successesOf(Sentences s) {
        s.in("Promise 24");
        s.holds("Returns the successes of a station at a rate in all", due -> {
            RetryChains x = Due.network(2, 1, 540, 1, 240);
            due.is("at first", x.successesOf(0, 0), 0);
            Due.tries(x, 0, 0, 0, 3, 1);
            due.is("one of 3 and one of 1", x.successesOf(0, 0), 2);
            x.update(0);
            due.is("an update does not matter", x.successesOf(0, 0), 2);
            Due.tries(x, 0, 0, 2);
            due.is("one more", x.successesOf(0, 0), 3);
            due.is("successesOf(0, 1)", x.successesOf(0, 1), 0);
            due.is("successesOf(1, 0)", x.successesOf(1, 0), 0);
        });
        s.said("Returns the number of successes");
        station(s, "successesOf(.., 0)", (x, station) -> x.successesOf(station, 0));
        rate(s, "successesOf(0, ..)", (x, rate) -> x.successesOf(0, rate));
        noStationOrRate(s, "successesOf", RetryChains::successesOf);
    }

    private static void airTime(Sentences s) {
        s.in("Promise 25");
        s.holds("Returns the air time of a frame at a rate", due -> {
            RetryChains x = Due.network(0, 0, 10, 1, 540, 2, 1300);
            due.row("airTime(.., 1200)", rate -> x.airTime(rate, 1200), 9852, 260, 169, BAD);
            due.row("airTime(.., 65535)", rate -> x.airTime(rate, 65535), 524532, 80 + 4 * 2428, 3733, BAD);
        });
        s.said("Returns the air time; BAD");
        rate(s, "airTime(.., 1)", (x, rate) -> x.airTime(rate, 1));
        s.holds("`size`: size of the frame in bytes, 1 to 65535", due -> {
            RetryChains x = Due.network(0, 0, 10, 1, 10, 2, 10);
            due.range("airTime(0, ..)", size -> x.airTime(0, size), 1, 65535);
            due.range("airTime(1, ..)", size -> x.airTime(1, size), 1, 65535);
            due.range("airTime(2, ..)", size -> x.airTime(2, size), 1, 65535);
        });
        s.holds("BAD if an argument is invalid", due -> {
            RetryChains x = Due.network(1, 0, 10);
            due.bad("airTime(.., 1)", rate -> x.airTime(rate, 1), 1, 8, -1, MIN, MAX);
            due.bad("airTime(0, ..)", size -> x.airTime(0, size), 0, 65536, -1, MIN, MAX);
            due.is("airTime(1, 0)", x.airTime(1, 0), BAD);
        });
    }

    private static void throughput(Sentences s) {
        s.in("Promise 26");
        s.holds("estimate * (8 * size) / (air time), where the product is an int", due -> {
            RetryChains x = Due.network(1, 0, 10, 1, 540);
            Due.teach(x, 0, 0, 1);
            Due.teach(x, 0, 1, 3);
            due.is("65536 * 9600 / 9852", x.throughput(0, 0, 1200), 63859);
            due.is("65536 * 8 / 260", x.throughput(0, 0, 1), 2016);
            due.is("21845 * 9600 / 260", x.throughput(0, 1, 1200), 806584);
            due.is("21845 * 98304 / 988", x.throughput(0, 1, 12288), 21845 * 98304 / x.airTime(1, 12288));
        });
        s.said("Returns the throughput of a station at a rate");
        station(s, "throughput(.., 0, 1)", (x, station) -> x.throughput(station, 0, 1));
        rate(s, "throughput(0, .., 1)", (x, rate) -> x.throughput(0, rate, 1));
        s.holds("`size`: size of the frames in bytes, 1 to 65535", due -> {
            RetryChains x = Due.network(1, 1, 540);
            due.range("throughput(0, 0, ..)", size -> x.throughput(0, 0, size), 1, 65535);
            Due.teach(x, 0, 0, 0);
            due.range("throughput(0, 0, ..)", size -> x.throughput(0, 0, size), 1, 65535);
            due.is("an estimate of 0", x.throughput(0, 0, 65535), 0);
        });
        s.said("Returns the throughput; BAD");
        s.holds("BAD if an argument is invalid", due -> {
            RetryChains x = Due.network(2, 1, 540, 1, 240, 1, 60);
            due.bad("throughput(.., 0, 1)", station -> x.throughput(station, 0, 1), 2, 4, -1, MIN, MAX);
            due.bad("throughput(0, .., 1)", rate -> x.throughput(0, rate, 1), 3, 8, -1, MIN, MAX);
            due.bad("throughput(0, 0, ..)", size -> x.throughput(0, 0, size), 0, 65536, -1, MIN, MAX);
            Due.teach(x, 0, 0, 1);
            due.bad("throughput(0, 0, ..)", size -> x.throughput(0, 0, size), 0, 65536, -1, MIN, MAX);
        });
        s.holds("NONE if there is no estimate", due -> {
            RetryChains x = Due.network(1, 1, 540, 1, 240);
            due.is("throughput(0, 0, 1)", x.throughput(0, 0, 1), NONE);
            Due.teach(x, 0, 0, 0);
            due.is("an estimate of 0 is one", x.throughput(0, 0, 1), 0);
            due.is("throughput(0, 1, 1)", x.throughput(0, 1, 1), NONE);
        });
        s.holds("OVERFLOW if the product would be too great (NONE goes first here)", due -> {
            RetryChains x = Due.network(1, 1, 540, 1, 240, 1, 60);
            Due.teach(x, 0, 0, 1);
            Due.teach(x, 0, 1, 2);
            due.is("65536 * 32760", x.throughput(0, 0, 4095), 2146959360 / x.airTime(0, 4095));
            due.is("65536 * 32768", x.throughput(0, 0, 4096), OVERFLOW);
            due.is("65536 * 524280, which is negative as an int", x.throughput(0, 0, 65535), OVERFLOW);
            due.is("32768 * 65528", x.throughput(0, 1, 8191), 2147221504 / x.airTime(1, 8191));
            due.is("32768 * 65536", x.throughput(0, 1, 8192), OVERFLOW);
            due.is("65536 * 65536 * 2, which is 0 as an int", x.throughput(0, 0, 16384), OVERFLOW);
            due.is("no estimate", x.throughput(0, 2, 65535), NONE);
        });
    }

    private static void role(Sentences s) {
        s.in("Promise 27");
        s.said("Returns the rate that has a role", "Returns the rate; BAD");
        station(s, "role(.., 0)", (x, station) -> x.role(station, 0));
        s.holds("`role`: 0 first, 1 second, 2 surest, 3 slowest", due -> {
            RetryChains x = Due.network(1, 1, 240, 1, 540, 1, 60, 0, 10);
            Due.teach(x, 0, 1, 2);
            Due.teach(x, 0, 0, 2);
            Due.teach(x, 0, 2, 1);
            due.row("role(0, ..)", role -> x.role(0, role), 1, 0, 2, 3, BAD);
            due.range("role(0, ..)", role -> x.role(0, role), 0, 3);
        });
        s.holds("BAD if an argument is invalid", due -> {
            RetryChains x = Due.network(2, 1, 540);
            due.bad("role(.., 0)", station -> x.role(station, 0), 2, 4, -1, MIN, MAX);
            due.bad("role(0, ..)", role -> x.role(0, role), 4, -1, MIN, MAX);
            due.is("role(3, 1): turned round", x.role(3, 1), BAD);
        });
        s.holds("NONE if the roles are empty", due -> {
            RetryChains x = Due.network(2);
            due.row("role(0, ..)", role -> x.role(0, role), NONE, NONE, NONE, NONE, BAD);
            x.addRate(1, 540);
            due.row("role(0, ..)", role -> x.role(0, role), 0, 0, 0, 0, BAD);
            x.allow(0, 0, false);
            due.row("role(0, ..)", role -> x.role(0, role), NONE, NONE, NONE, NONE, BAD);
            due.is("role(1, 0)", x.role(1, 0), 0);
        });
    }

    private static void refusal(Sentences s) {
        s.in("Promise 28");
        s.said("Returns that number");
        s.holds("Tells why the latest chain that was laid for a station is no sampling chain", due -> {
            RetryChains x = Due.network(2, 1, 240, 1, 540);
            x.setShare(50);
            x.lay(0, 1);
            due.row("refusal(0, ..)", depth -> x.refusal(0, depth), 1, NONE, NONE);
            x.lay(0, 1);
            due.row("refusal(0, ..) of the latest", depth -> x.refusal(0, depth), 2, 12, 21);
            x.report(1, 1, true);
            x.allow(0, 0, false);
            x.lay(1, 1);
            due.row("refusal(0, ..): it stays", depth -> x.refusal(0, depth), 2, 12, 21);
            due.row("refusal(1, ..)", depth -> x.refusal(1, depth), 1, NONE, NONE);
            x.simulate(0, 1, 1, 1);
            due.row("refusal(0, ..) of a frame of simulate()", depth -> x.refusal(0, depth), 2, 11, NONE);
        });
        station(s, "refusal(.., 0)", (x, station) -> x.refusal(station, 0));
        s.holds("0: the reason, 1 or 2", due -> {
            RetryChains x = Due.network(1, 1, 240, 1, 540);
            x.setShare(50);
            x.lay(0, 1);
            due.is("refusal(0, 0)", x.refusal(0, 0), 1);
            x.lay(0, 1);
            due.is("refusal(0, 0)", x.refusal(0, 0), 2);
        });
        s.holds("1: the cause of reason 2, 11 to 14", due -> {
            for (int cause = 11; cause <= 14; cause++) {
                RetryChains x = Due.network(1, 1, 240, 1, 240, 1, 60, 1, 540);
                x.setShare(50);
                x.lay(0, 1);
                due.is("reason 1 has none", x.refusal(0, 1), NONE);
                prepare(x, cause);
                x.lay(0, 1);
                due.row("refusal(0, ..)", depth -> x.refusal(0, depth), 2, cause, cause == 12 ? 21 : NONE, BAD);
            }
        });
        s.holds("2: the cause of cause 12, 21 to 23", due -> {
            for (int role = 0; role < 3; role++) {
                RetryChains x = Due.network(1, 1, 240, 1, 240, 1, 60, 1, 540);
                Due.teach(x, 0, 2, role == 1 ? 2 : 1);
                if (role > 0) {
                    Due.teach(x, 0, 0, role);
                }
                if (role == 2) {
                    Due.teach(x, 0, 1, 2);
                }
                x.setShare(50);
                x.lay(0, 1);
                due.row("refusal(0, ..)", depth -> x.refusal(0, depth), 2, 12, 21 + role, BAD);
            }
        });
        s.holds("`depth`: 0: the reason, 1 or 2; 1: the cause of reason 2, 11 to 14", due -> {
            RetryChains x = Due.network(1, 1, 540);
            due.range("refusal(0, ..)", depth -> x.refusal(0, depth), 0, 2);
        });
        s.holds("BAD if an argument is invalid", due -> {
            RetryChains x = Due.network(2, 1, 540);
            due.bad("refusal(.., 0)", station -> x.refusal(station, 0), 2, 4, -1, MIN, MAX);
            due.bad("refusal(0, ..)", depth -> x.refusal(0, depth), 3, -1, MIN, MAX);
        });
        s.holds("NONE if there is no such number (also if there was no chain, or it is a sampling or a fallback chain)", due -> {
            RetryChains x = Due.network(2, 1, 240, 1, 240, 1, 60, 1, 540);
            due.row("no chain", depth -> x.refusal(0, depth), NONE, NONE, NONE, BAD);
            x.setShare(50);
            x.lay(0, 1);
            due.row("reason 1", depth -> x.refusal(0, depth), 1, NONE, NONE, BAD);
            x.lay(0, 1);
            due.row("a sampling chain", depth -> x.refusal(0, depth), NONE, NONE, NONE, BAD);
            due.row("no chain of another station", depth -> x.refusal(1, depth), NONE, NONE, NONE, BAD);
            Due.tries(x, 0, 0, 0, 0, 0);
            due.is("reason 1 before the fallback", x.refusal(0, 0), 1);
            x.lay(0, 1);
            due.row("a fallback chain", depth -> x.refusal(0, depth), NONE, NONE, NONE, BAD);
        });
    }

    /** Makes candidate 2 be refused for this cause. */
    private static void prepare(RetryChains x, int cause) {
        if (cause == 11) {
            x.allow(0, 2, false);
        } else if (cause == 14) {
            Due.tries(x, 0, 2, 1);
        } else {
            Due.teach(x, 0, 2, 1);
        }
        if (cause == 13) {
            Due.teach(x, 0, 0, 1);
            Due.teach(x, 0, 1, 1);
        }
    }

    private static void rateOfMode(Sentences s) {
        s.in("Promise 29");
        s.said("Returns the rate; BAD");
        s.holds("Returns the rates of a mode in the order of ascending speed, those with the same speed by their numbers",
            due -> {
            RetryChains x = Due.network(0, 1, 240, 1, 60, 0, 50, 1, 240, 2, 30, 1, 100, 1, 60, 0, 10);
            due.row("rateOfMode(1, ..)", k -> x.rateOfMode(1, k), 1, 6, 5, 0, 3, NONE);
            due.row("rateOfMode(0, ..)", k -> x.rateOfMode(0, k), 7, 2, NONE);
            due.row("rateOfMode(2, ..)", k -> x.rateOfMode(2, k), 4, NONE);
            RetryChains y = Due.network(0, 1, 70, 1, 70, 1, 70, 1, 70, 1, 70, 1, 70, 1, 70, 1, 70);
            due.row("rateOfMode(1, ..)", k -> y.rateOfMode(1, k), 0, 1, 2, 3, 4, 5, 6, 7, NONE);
        });
        s.holds("`mode`: 0 to 2", due -> {
            RetryChains x = Due.network(0, 0, 10, 1, 10, 2, 10);
            due.range("rateOfMode(.., 0)", mode -> x.rateOfMode(mode, 0), 0, 2);
        });
        s.holds("`k`: position in this order, 0 or more", due -> {
            RetryChains x = Due.network(0, 0, 10);
            due.range("rateOfMode(0, ..)", k -> x.rateOfMode(0, k), 0, MAX);
            due.is("rateOfMode(0, 0)", x.rateOfMode(0, 0), 0);
        });
        s.holds("BAD if an argument is out of range", due -> {
            RetryChains x = Due.network(0, 0, 10, 1, 10);
            due.bad("rateOfMode(.., 0)", mode -> x.rateOfMode(mode, 0), -1, 3, MIN, MAX);
            due.bad("rateOfMode(1, ..)", k -> x.rateOfMode(1, k), -1, -9, MIN);
            due.is("rateOfMode(2, -1)", x.rateOfMode(2, -1), BAD);
        });
        s.holds("NONE if there is no such position", due -> {
            RetryChains x = Due.network(0, 0, 10, 0, 20, 1, 30);
            due.row("rateOfMode(0, ..)", k -> x.rateOfMode(0, k), 0, 1, NONE, NONE, NONE, NONE, NONE, NONE, NONE);
            due.is("rateOfMode(1, 1)", x.rateOfMode(1, 1), NONE);
            due.is("rateOfMode(2, 0)", x.rateOfMode(2, 0), NONE);
            due.is("rateOfMode(0, MAX)", x.rateOfMode(0, MAX), NONE);
        });
    }

    private static void bestOfMode(Sentences s) {
        s.in("Promise 30");
        s.said("Returns the rate; BAD");
        s.holds("Returns the allowed rate of a mode with the greatest value for a station (by the present estimates)", due -> {
            RetryChains x = Due.network(2, 1, 240, 1, 60, 0, 540, 1, 540);
            Due.teach(x, 0, 2, 1);
            Due.teach(x, 0, 1, 1);
            Due.teach(x, 0, 0, 2);
            due.is("336238 and 649917; 2 is of another mode", x.bestOfMode(0, 1), 0);
            due.is("bestOfMode(0, 0)", x.bestOfMode(0, 0), 2);
            due.is("another station", x.bestOfMode(1, 1), 1);
            x.allow(0, 0, false);
            due.is("it has to be allowed", x.bestOfMode(0, 1), 1);
            x.allow(0, 1, false);
            due.is("without a value", x.bestOfMode(0, 1), 3);
        });
        s.holds("of several the first one in the order of rateOfMode()", due -> {
            RetryChains x = Due.network(1, 1, 240, 1, 60, 1, 240, 1, 60);
            due.is("values of 0: the slowest, of several the smallest number", x.bestOfMode(0, 1), 1);
            Due.teach(x, 0, 2, SURE);
            Due.teach(x, 0, 0, 1);
            due.is("the same speed and value: the smallest number", x.bestOfMode(0, 1), 0);
            // 1301 and 1300: the nominal air time of both is 156, so the slower one comes first
            RetryChains y = Due.network(1, 1, 1301, 1, 1300);
            due.is("the same air time", y.airTime(0, 1200) - y.airTime(1, 1200), 0);
            Due.teach(y, 0, 0, 1);
            Due.teach(y, 0, 1, SURE);
            due.is("the same value: the slower one", y.bestOfMode(0, 1), 1);
        });
        station(s, "bestOfMode(.., 1)", (x, station) -> x.bestOfMode(station, 1));
        s.holds("`mode`: 0 to 2", due -> {
            RetryChains x = Due.network(1, 0, 10, 1, 10, 2, 10);
            due.range("bestOfMode(0, ..)", mode -> x.bestOfMode(0, mode), 0, 2);
            due.row("bestOfMode(0, ..)", mode -> x.bestOfMode(0, mode), 0, 1, 2, BAD);
        });
        s.holds("BAD if an argument is invalid", due -> {
            RetryChains x = Due.network(2, 0, 10);
            due.bad("bestOfMode(.., 0)", station -> x.bestOfMode(station, 0), 2, 4, -1, MIN, MAX);
            due.bad("bestOfMode(0, ..)", mode -> x.bestOfMode(0, mode), 3, -1, MIN, MAX);
        });
        s.holds("NONE if there is no allowed rate of this mode", due -> {
            RetryChains x = Due.network(1, 0, 10, 2, 10);
            due.row("bestOfMode(0, ..)", mode -> x.bestOfMode(0, mode), 0, NONE, 1, BAD);
            x.allow(0, 0, false);
            due.row("bestOfMode(0, ..)", mode -> x.bestOfMode(0, mode), NONE, NONE, 1, BAD);
        });
    }

    private static void mostUsed(Sentences s) {
        s.in("Promise 31");
        s.said("Returns the rate; BAD");
        s.holds("Returns the rate at which most tries of a station were made in all", due -> {
            RetryChains x = Due.network(2, 1, 540, 1, 240, 1, 60);
            Due.teach(x, 0, 2, 0);
            Due.teach(x, 0, 0, 3);
            due.is("4 and 3", x.mostUsed(0), 2);
            Due.tries(x, 1, 1, 1);
            due.is("mostUsed(1)", x.mostUsed(1), 1);
            Due.tries(x, 0, 0, 2);
            due.is("in all: 4 and 5", x.mostUsed(0), 0);
            x.allow(0, 0, false);
            due.is("also if it is forbidden", x.mostUsed(0), 0);
            RetryChains y = Due.network(1, 1, 540, 1, 540, 1, 540, 1, 540, 1, 540, 1, 540, 1, 540, 1, 540);
            Due.tries(y, 0, 7, 3);
            due.is("the last of 8 rates", y.mostUsed(0), 7);
        });
        s.holds("of several the smallest number", due -> {
            RetryChains x = Due.network(1, 1, 540, 1, 240, 1, 60);
            Due.tries(x, 0, 2, 3);
            due.is("3", x.mostUsed(0), 2);
            Due.tries(x, 0, 1, 3);
            due.is("3 and 3", x.mostUsed(0), 1);
            Due.tries(x, 0, 0, 2);
            due.is("2, 3 and 3", x.mostUsed(0), 1);
        });
        station(s, "mostUsed", RetryChains::mostUsed);
        s.holds("BAD if there is no such station", due ->
            due.bad("mostUsed", station -> Due.network(2, 1, 540).mostUsed(station), 2, 3, 4, -1, MIN, MAX));
        s.holds("NONE if there were no tries", due -> {
            RetryChains x = Due.network(2, 1, 540);
            due.is("at first", x.mostUsed(0), NONE);
            x.lay(0, 1);
            due.is("a chain alone", x.mostUsed(0), NONE);
            x.report(0, 1, true);
            due.is("one try", x.mostUsed(0), 0);
            due.is("of another station", x.mostUsed(1), NONE);
            due.is("without rates", Due.network(1).mostUsed(0), NONE);
        });
    }

    /** All chains of the rates that are allowed, each tried by the formulas of deliveryChance() and expectedTime(). */
    private static int[] bestByHand(int[] rates, int[] estimates, int[] tries, int[][] times) {
        int[] best = {};
        long bestChance = 0;
        long bestTime = 1;
        int n = rates.length;
        for (int code = 0; code < n * n * n * n; code++) {
            int[] places = {code / (n * n * n), code / (n * n) % n, code / n % n, code % n};
            long reach = 65536;
            long sum = 0;
            for (int place : places) {
                for (int attempt = 0; attempt < tries[place]; attempt++) {
                    sum += reach * times[place][attempt];
                    reach = reach * (65536 - estimates[place]) / 65536;
                }
            }
            long chance = 65536 - reach;
            if (best.length == 0 || Math.multiplyExact(chance, bestTime) > Math.multiplyExact(bestChance, sum)) {
                best = new int[] {rates[places[0]], rates[places[1]], rates[places[2]], rates[places[3]]};
                bestChance = chance;
                bestTime = sum;
            }
        }
        return best;
    }

    private static void bestIs(Due due, RetryChains x, int size, int... rates) {
        due.row("bestChain(0, " + size + ", ..)", entry -> x.bestChain(0, size, entry), rates);
    }

    private static void bestChain(Sentences s) {
        s.in("Promise 32");
        s.said("Finds the best retry chain for a frame", "each with the number of its tries for the frame, the one with the "
            + "greatest ratio of chance to time, where chance is computed like deliveryChance() and time is the sum of "
            + "expectedTime() before it is divided by 65536", "Returns the rate of this entry");
        s.holds("of all sequences of four allowed rates (a rate may occur several times)", due -> {
            RetryChains x = Due.network(1, 1, 60, 1, 540);
            Due.teach(x, 0, 1, 2);
            bestIs(due, x, 1200, 1, 1, 1, 1);
            x.allow(0, 1, false);
            bestIs(due, x, 1200, 0, 0, 0, 0);
            x.allow(0, 1, true);
            Due.teach(x, 0, 0, 1);
            due.is("1 is quick, 0 is sure", x.bestChain(0, 1200, 0), 1);
            RetryChains y = Due.network(1, 1, 540, 1, 540, 1, 540, 1, 540, 1, 540, 1, 540, 1, 540, 1, 540);
            Due.teach(y, 0, 5, 2);
            bestIs(due, y, 1200, 5, 5, 5, 5);
            Due.teach(y, 0, 7, 1);
            bestIs(due, y, 1200, 7, 0, 0, 0);
        });
        s.holds("each with the number of its tries for the frame", due -> {
            for (int budget : new int[] {100, 1000, 3000, 100000}) {
                for (int size : new int[] {1, 1200, 4000}) {
                    RetryChains x = Due.network(1, 0, 55, 1, 540, 2, 120);
                    int[] estimates = {65536, 16384, 43690};
                    Due.teach(x, 0, 0, 1);
                    Due.teach(x, 0, 1, 4);
                    Due.teach(x, 0, 2, 1, 2);
                    x.setBudget(budget);
                    due.row("estimate(0, ..)", rate -> x.estimate(0, rate), estimates);
                    int[] tries = new int[3];
                    int[][] times = new int[3][7];
                    for (int rate = 0; rate < 3; rate++) {
                        int spent = 0;
                        for (int attempt = 0; attempt < 7; attempt++) {
                            times[rate][attempt] = x.airTime(rate, size) + 9 * ((16 << attempt) - 1) / 2;
                            spent += times[rate][attempt];
                            tries[rate] += attempt == 0 || spent <= budget ? 1 : 0;
                        }
                    }
                    bestIs(due, x, size, bestByHand(new int[] {0, 1, 2}, estimates, tries, times));
                }
            }
        });
        s.holds("the one with the greatest ratio of chance to time", due -> {
            // one try each: 49152 by 327 is more than 65536 by 551, so 1 comes first
            RetryChains x = Due.network(1, 1, 240, 1, 540);
            x.setBudget(100);
            Due.teach(x, 0, 0, 1);
            Due.teach(x, 0, 1, 1, 1, 2);
            due.is("estimate(0, 1)", x.estimate(0, 1), 49152);
            int[][] times = {{551}, {327}};
            bestIs(due, x, 1200, bestByHand(new int[] {0, 1}, new int[] {65536, 49152}, new int[] {1, 1}, times));
            due.is("bestChain(0, 1200, 0)", x.bestChain(0, 1200, 0), 1);
            // the present estimates
            Due.teach(x, 0, 1, 0);
            due.is("estimate(0, 1)", x.estimate(0, 1), 36864);
            due.is("36864 by 327 is less than 65536 by 551", x.bestChain(0, 1200, 0), 0);
            // ratios so near that a quotient or a float takes them for equal
            x = Due.network(1, 0, 80, 0, 62);
            x.setBudget(100);
            Due.teach(x, 0, 0, 1, 1, 2);
            Due.teach(x, 0, 1, 1, 1, 1, 1, 1, 1, 1, 1, 1, 1, 2);
            due.is("1157 and 1420", x.airTime(0, 905) * 10000 + x.airTime(1, 905), 1157 * 10000 + 1420);
            bestIs(due, x, 905, 1, 1, 1, 1);
            x = Due.network(1, 0, 80, 0, 353);
            x.setBudget(100);
            Due.teach(x, 0, 0, 1, 2);
            Due.teach(x, 0, 1, 3, 4);
            bestIs(due, x, 905, 0, 0, 0, 1);
            RetryChains near = Due.network(1, 0, 115, 0, 287);
            near.setBudget(100);
            Due.teach(near, 0, 0, 1, 1, 1, 2, 2, 2, 2, 2);
            Due.teach(near, 0, 1, 3, 4);
            due.row("airTime(.., 3869)", rate -> near.airTime(rate, 3869), 2944, 1331);
            due.row("estimate(0, ..)", rate -> near.estimate(0, rate), 40329, 18724);
            bestIs(due, near, 3869, 0, 0, 0, 1);
        });
        s.holds("of several the lexicographically smallest sequence", due -> {
            RetryChains x = Due.network(1, 1, 60, 1, 240, 1, 540);
            bestIs(due, x, 1200, 0, 0, 0, 0);
            Due.teach(x, 0, 2, 1);
            bestIs(due, x, 1200, 2, 0, 0, 0);
            x.allow(0, 0, false);
            bestIs(due, x, 1200, 2, 1, 1, 1);
            RetryChains y = Due.network(1, 1, 240, 1, 540, 1, 540);
            Due.teach(y, 0, 2, 2);
            Due.teach(y, 0, 1, 2);
            due.is("equal rates", y.bestChain(0, 1200, 0), 1);
            due.is("equal rates", y.bestChain(0, 1200, 3), 1);
            // 65536 by 259 + 67 and 32768 by 96 + 67: every sequence has the ratio 1 / 326
            y = Due.network(1, 0, 1150, 1, 540);
            y.setBudget(100);
            Due.teach(y, 0, 0, 1);
            Due.teach(y, 0, 1, 2);
            bestIs(due, y, 100, 0, 0, 0, 0);
            y = Due.network(1, 1, 540, 0, 1150);
            y.setBudget(100);
            Due.teach(y, 0, 0, 2);
            Due.teach(y, 0, 1, 1);
            bestIs(due, y, 100, 0, 0, 0, 0);
            due.is("259 and 96", y.airTime(1, 100) * 1000 + y.airTime(0, 100), 259096);
        });
    }

    private static void bestChainAnswers(Sentences s) {
        station(s, "bestChain(.., 1, 0)", (x, station) -> x.bestChain(station, 1, 0));
        s.holds("`size`: size of the frame in bytes, 1 to 4000", due -> {
            RetryChains x = Due.network(1, 1, 540);
            due.range("bestChain(0, .., 0)", size -> x.bestChain(0, size, 0), 1, 4000);
            RetryChains y = Due.network(1, 0, 540, 1, 60);
            y.setBudget(100);
            Due.teach(y, 0, 0, 1);
            Due.teach(y, 0, 1, 1);
            due.is("253 and 84 at 1 byte", y.bestChain(0, 1, 0), 1);
            due.is("845 and 5420 at 4000 bytes", y.bestChain(0, 4000, 0), 0);
        });
        s.holds("`entry`: 0 to 3", due -> {
            RetryChains x = Due.network(1, 1, 540);
            due.range("bestChain(0, 1, ..)", entry -> x.bestChain(0, 1, entry), 0, 3);
        });
        s.holds("BAD if an argument is invalid", due -> {
            RetryChains x = Due.network(2, 1, 540);
            due.bad("bestChain(.., 1, 0)", station -> x.bestChain(station, 1, 0), 2, 4, -1, MIN, MAX);
            due.bad("bestChain(0, .., 0)", size -> x.bestChain(0, size, 0), 0, 4001, -1, MIN, MAX);
            due.bad("bestChain(0, 1, ..)", entry -> x.bestChain(0, 1, entry), 4, -1, MIN, MAX);
        });
        s.holds("NONE if the station has no allowed rate", due -> {
            RetryChains x = Due.network(2, 1, 540, 1, 60);
            bestIs(due, Due.network(1), 1, NONE, NONE, NONE, NONE, BAD);
            x.allow(0, 0, false);
            bestIs(due, x, 1, 1, 1, 1, 1, BAD);
            x.allow(0, 1, false);
            bestIs(due, x, 1, NONE, NONE, NONE, NONE, BAD);
            due.is("another station", x.bestChain(1, 1, 3), 0);
        });
    }
}
