/** The sentences of the promises 9 to 14. */
final class SendingSentences {
    private static final int BAD = Due.BAD, STATE = Due.STATE, FULL = Due.FULL, OVERFLOW = Due.OVERFLOW, NONE = Due.NONE;
    private static final int MAX = Integer.MAX_VALUE, MIN = Integer.MIN_VALUE;

    private SendingSentences() {
    }

    static void hold(Sentences s) {
        lay(s);
        enqueue(s);
        dispatch(s);
        turns(s);
        dispatchAnswers(s);
        report(s);
        reportOutcome(s);
        reportErrors(s);
        pass(s);
        update(s);
    }

    private static RetryChains fullyOpen(int stations) {
        RetryChains x = Due.network(stations, 1, 540);
        for (int chain = 0; chain < 6; chain++) {
            x.lay(0, 1);
        }
        return x;
    }

    private static void lay(Sentences s) {
        s.in("Promise 9");
        s.said("Lays a chain for a frame (act)");
        s.holds("`station`: number of a station", due -> {
            due.range("lay(.., 1)", station -> Due.network(3, 1, 540).lay(station, 1), 0, 2);
            due.bad("lay(.., 1)", station -> Due.network(4, 1, 540).lay(station, 1), 4, 5);
        });
        s.holds("`size`: size of the frame in bytes, 1 to 4000", due -> {
            due.range("lay(0, ..)", size -> Due.network(1, 1, 540).lay(0, size), 1, 4000);
            RetryChains x = Due.network(1, 1, 540);
            x.lay(0, 1);
            x.lay(0, 4000);
            due.row("tag", x::tag, 4, 16000);
        });
        s.holds("Returns the number of the chain", due -> {
            RetryChains x = Due.network(2, 1, 540);
            due.row("lay(.., 1)", call -> x.lay(call % 2, 1), 0, 1, 2);
            x.report(1, 1, true);
            due.is("lay(0, 1)", x.lay(0, 1), 1);
        });
        s.holds("BAD if an argument is invalid", due -> {
            RetryChains x = fullyOpen(1);
            due.is("lay(1, 1)", x.lay(1, 1), BAD);
            due.is("lay(0, 4001)", x.lay(0, 4001), BAD);
            due.is("lay(MIN, MIN)", x.lay(MIN, MIN), BAD);
            due.is("chains(0)", x.chains(0), 6);
        });
        s.holds("STATE if the station has no allowed rate", due -> {
            due.is("no rate at all", Due.network(1).lay(0, 1), STATE);
            RetryChains x = Due.network(2, 1, 540, 1, 240);
            x.allow(0, 0, false);
            due.is("one of two", x.lay(0, 1), 0);
            x.allow(0, 1, false);
            due.is("none of two", x.lay(0, 1), STATE);
            due.is("another station", x.lay(1, 1), 1);
            x.allow(0, 1, true);
            due.is("one again", x.lay(0, 1), 2);
            due.is("chains(0)", x.chains(0), 2);
        });
        s.holds("FULL if 6 chains are open", due -> {
            RetryChains x = Due.network(2, 1, 540);
            for (int chain = 0; chain < 5; chain++) {
                x.lay(0, 1);
            }
            due.is("the sixth", x.lay(0, 1), 5);
            due.is("the seventh", x.lay(0, 1), FULL);
            due.is("of another station", x.lay(1, 1), FULL);
            due.is("chains(0)", x.chains(0), 6);
            x.report(3, 1, true);
            due.is("after a report", x.lay(1, 1), 3);
        });
    }

    private static void enqueue(Sentences s) {
        s.in("Promise 10");
        s.holds("Appends a frame to the queue of a station (act)", due -> {
            RetryChains x = Due.network(1, 1, 540);
            for (int frame = 1; frame <= 8; frame++) {
                x.enqueue(0, 10 * frame);
            }
            for (int frame = 1; frame <= 8; frame++) {
                x.dispatch();
                due.is("tag(0)", x.tag(0), 40 * frame);
                x.report(0, 1, true);
                // the queue goes on behind what is left
                x.enqueue(0, 1000 + frame);
            }
            x.dispatch();
            due.is("tag(0)", x.tag(0), 4004);
        });
        s.holds("`station`: number of a station", due -> {
            due.range("enqueue(.., 1)", station -> Due.network(3, 1, 540).enqueue(station, 1), 0, 2);
            due.is("without a rate", Due.network(1).enqueue(0, 1), 1);
        });
        s.holds("`size`: size of the frame in bytes, 1 to 4000", due -> {
            due.range("enqueue(0, ..)", size -> Due.network(1, 1, 540).enqueue(0, size), 1, 4000);
            RetryChains x = Due.network(1, 1, 540);
            x.enqueue(0, 1);
            x.enqueue(0, 4000);
            x.dispatch();
            x.dispatch();
            due.row("tag", x::tag, 4, 16000);
        });
        s.holds("Returns how many frames the queue has then", due -> {
            RetryChains x = Due.network(2, 1, 540);
            due.row("enqueue(0, 1)", call -> x.enqueue(0, 1), 1, 2, 3, 4, 5, 6, 7, 8);
            due.is("enqueue(1, 1)", x.enqueue(1, 1), 1);
        });
        s.holds("BAD if an argument is invalid", due -> {
            RetryChains x = Due.network(1, 1, 540);
            due.is("enqueue(1, 1)", x.enqueue(1, 1), BAD);
            due.is("enqueue(0, 0)", x.enqueue(0, 0), BAD);
            due.is("enqueue(0, 4001)", x.enqueue(0, 4001), BAD);
            due.is("enqueue(MAX, MAX)", x.enqueue(MAX, MAX), BAD);
            due.is("queued(0)", x.queued(0), 0);
        });
        s.holds("FULL if it has 8 frames", due -> {
            RetryChains x = Due.network(2, 1, 540);
            for (int frame = 0; frame < 8; frame++) {
                due.is("there is room", x.enqueue(0, 1), frame + 1);
            }
            due.is("the ninth", x.enqueue(0, 1), FULL);
            due.is("queued(0)", x.queued(0), 8);
            due.is("another queue", x.enqueue(1, 1), 1);
            x.dispatch();
            due.is("after dispatch()", x.enqueue(0, 9), 8);
            due.is("and again", x.enqueue(0, 9), FULL);
        });
    }

    private static void dispatch(Sentences s) {
        s.in("Promise 11");
        s.holds("lays a chain for the first frame of its queue, which is removed from the queue (act)", due -> {
            RetryChains x = Due.network(2, 1, 540);
            x.enqueue(1, 100);
            x.enqueue(1, 200);
            due.is("dispatch()", x.dispatch(), 0);
            due.is("tag(0)", x.tag(0), 401);
            due.is("queued(1)", x.queued(1), 1);
            due.is("chains(1)", x.chains(1), 1);
            due.is("dispatch()", x.dispatch(), 1);
            due.is("tag(1)", x.tag(1), 801);
            due.is("queued(1)", x.queued(1), 0);
            due.is("undo()", x.undo(), 4);
            due.is("queued(1)", x.queued(1), 1);
        });
        s.said("Chooses a station by deficits of air time, and lays a chain for the first frame of its queue");
        s.holds("A station is ready if its queue is not empty and it has an allowed rate", due -> {
            RetryChains x = Due.network(3, 1, 540);
            x.enqueue(0, 1);
            x.enqueue(2, 1);
            x.allow(0, 0, false);
            x.dispatch();
            due.is("0 has no rate, 1 has no frame", x.stationOf(0), 2);
            due.is("deficit(0): it was not ready", x.deficit(0), 0);
            due.is("deficit(1)", x.deficit(1), 0);
            due.is("no other is ready", x.dispatch(), NONE);
            x.allow(0, 0, true);
            x.dispatch();
            due.is("0 has a rate again", x.stationOf(1), 0);
        });
    }

    private static void turns(Sentences s) {
        s.holds("Beginning with the station whose turn it is (station 0 at first)", due -> {
            RetryChains x = Due.network(3, 1, 540);
            x.enqueue(0, 1);
            x.enqueue(1, 1);
            x.enqueue(2, 1);
            x.dispatch();
            // each got 4000, and station 0 was the first one that had some
            due.is("stationOf(0)", x.stationOf(0), 0);
            due.row("deficit", x::deficit, 4000, 4000, 4000);
            x.dispatch();
            due.is("0 has no frame", x.stationOf(1), 1);
            x.enqueue(0, 1);
            x.enqueue(1, 1);
            x.dispatch();
            due.is("it is the turn of 1, though all have 4000", x.stationOf(2), 1);
            x.dispatch();
            due.is("1 has no frame: 2", x.stationOf(3), 2);
            x.dispatch();
            due.is("2 has no frame: 0", x.stationOf(4), 0);
            due.row("deficit", x::deficit, 4000, 4000, 4000);
        });
        s.holds("if it is not ready, it is the turn of the next station (after the last one of station 0)", due -> {
            RetryChains x = Due.network(4, 1, 540);
            x.enqueue(3, 1);
            x.enqueue(3, 1);
            x.dispatch();
            due.is("stationOf(0)", x.stationOf(0), 3);
            due.row("deficit", x::deficit, 0, 0, 0, 4000);
            x.dispatch();
            x.enqueue(0, 1);
            x.enqueue(1, 1);
            x.dispatch();
            due.is("3 is not ready any more: 0, 1, 2, 3, 0", x.stationOf(2), 0);
            due.row("deficit", x::deficit, 4000, 4000, 0, 4000);
            // a station that is added later takes its turn before 0
            RetryChains y = Due.network(1, 1, 540);
            y.enqueue(0, 1);
            y.dispatch();
            y.addStation();
            y.enqueue(1, 1);
            y.dispatch();
            due.is("stationOf(1)", y.stationOf(1), 1);
        });
        s.holds("if it is ready and its deficit is 0 or less, its deficit increases by 4000, and it is the turn of the next "
                + "station", due -> {
            // at 681 bytes a try takes 252 + 681 + 67 = 1000
            RetryChains x = Due.network(2, 0, 80);
            x.setBudget(100);
            x.enqueue(0, 681);
            x.enqueue(0, 681);
            x.enqueue(1, 681);
            x.dispatch();
            x.report(0, 4, true);
            due.is("deficit(0)", x.deficit(0), 0);
            x.dispatch();
            due.is("0 is not enough: it is the turn of 1", x.stationOf(0), 1);
            due.row("deficit", x::deficit, 4000, 4000);
            // less than -4000 takes several rounds
            RetryChains y = Due.network(2, 0, 10);
            y.lay(0, 1200);
            y.report(0, 1, true);
            y.enqueue(0, 1);
            y.dispatch();
            due.is("-9919 + 3 * 4000", y.deficit(0), 2081);
            due.is("deficit(1): it was not ready", y.deficit(1), 0);
        });
        s.holds("if it is ready and its deficit is above 0, it is chosen, and the turn stays", due -> {
            // at 918 bytes three tries take 1237 + 1309 + 1453 = 3999
            RetryChains x = Due.network(2, 0, 80);
            for (int frame = 0; frame < 3; frame++) {
                x.enqueue(0, 918);
                x.enqueue(1, 918);
            }
            x.dispatch();
            x.report(0, 3, true);
            due.is("deficit(0)", x.deficit(0), 1);
            x.dispatch();
            due.is("1 is enough, and it is its turn still", x.stationOf(0), 0);
            due.is("deficit(0): nothing was added", x.deficit(0), 1);
            x.report(0, 1, true);
            x.dispatch();
            due.is("then it is the turn of 1", x.stationOf(0), 1);
            due.is("deficit(0)", x.deficit(0), 1 - 1237 + 4000);
        });
        s.holds("This is repeated until a station is chosen", due -> {
            RetryChains x = Due.network(4, 0, 10);
            for (int chain = 0; chain < 8; chain++) {
                x.lay(3, 4000);
                x.report(0, 4, true);
            }
            due.is("deficit(3)", x.deficit(3), -1000000);
            x.enqueue(3, 1);
            due.is("251 rounds", x.dispatch(), 0);
            due.is("deficit(3)", x.deficit(3), 4000);
        });
    }

    private static void dispatchAnswers(Sentences s) {
        s.holds("Returns the number of the chain", due -> {
            RetryChains x = Due.network(1, 1, 540);
            x.lay(0, 1);
            x.lay(0, 1);
            x.report(0, 1, true);
            x.enqueue(0, 1);
            x.enqueue(0, 1);
            due.row("dispatch()", call -> x.dispatch(), 0, 2, NONE);
        });
        s.holds("FULL if 6 chains are open", due -> {
            RetryChains x = fullyOpen(1);
            due.is("without a frame", x.dispatch(), FULL);
            x.enqueue(0, 1);
            due.is("with a frame", x.dispatch(), FULL);
            due.is("queued(0)", x.queued(0), 1);
            x.report(2, 1, true);
            due.is("after a report", x.dispatch(), 2);
        });
        s.holds("NONE if no station is ready (then nothing changes, and this is no act)", due -> {
            due.is("without stations", new RetryChains().dispatch(), NONE);
            due.is("without frames", Due.network(4, 1, 540).dispatch(), NONE);
            // the turn and the deficits stay
            Twins.noTrace(due, "dispatch()", () -> {
                RetryChains x = Twins.travelled();
                while (x.queued(0) + x.queued(1) > 0) {
                    x.report(x.dispatch(), 1, true);
                }
                x.enqueue(0, 1);
                x.enqueue(1, 1);
                Due.allowOnly(x, 0, 0);
                Due.allowOnly(x, 1, 0);
                return x;
            }, RetryChains::dispatch, NONE);
            RetryChains x = Due.network(3, 1, 540);
            x.enqueue(1, 1);
            x.dispatch();
            due.is("dispatch()", x.dispatch(), NONE);
            x.enqueue(0, 1);
            x.enqueue(1, 1);
            x.dispatch();
            due.is("the turn stayed at 1", x.stationOf(1), 1);
            due.is("deficit(0)", x.deficit(0), 0);
            due.is("undo()", x.undo(), 4);
            due.is("queued(1): dispatch() was undone", x.queued(1), 1);
        });
    }

    /** At 1200 bytes rate 0 takes 551, 623 and 767, rate 1 takes 327, 399 and 543, rate 2 takes 1751. */
    private static RetryChains threeRates() {
        RetryChains x = Due.network(2, 1, 240, 1, 540, 1, 60);
        x.setBudget(2000);
        x.lay(0, 1200);
        return x;
    }

    private static void report(Sentences s) {
        s.in("Promise 12");
        s.holds("Reports how the transmission of a chain ended, and closes the chain (act)", due -> {
            RetryChains x = threeRates();
            x.lay(0, 1);
            x.report(0, 1, true);
            due.row("kind", x::kind, BAD, 0, BAD);
            due.is("report again", x.report(0, 1, true), BAD);
            due.is("undo()", x.undo(), 4);
            due.row("kind", x::kind, 0, 0, BAD);
        });
        s.holds("The tries are used in the order of the entries: all tries of entry 0 first, then those of entry 1, and so on",
            due -> {
            int[][] made = {{1, 0, 0}, {2, 0, 0}, {3, 0, 0}, {3, 1, 0}, {3, 2, 0}, {3, 3, 0}, {4, 3, 0}, {5, 3, 0}, {6, 3, 0},
                {6, 3, 1}};
            int[] times = {551, 1174, 1941, 2268, 2667, 3210, 3761, 4384, 5151, 6902};
            for (int tries = 1; tries <= 10; tries++) {
                RetryChains x = threeRates();
                due.row("entryRate(0, ..)", entry -> x.entryRate(0, entry), 0, 1, 0, 2);
                due.is("report(0, " + tries + ", true)", x.report(0, tries, true), times[tries - 1]);
                due.row("triesOf(0, ..) after " + tries, rate -> x.triesOf(0, rate), made[tries - 1]);
            }
        });
        s.holds("Each try counts for its rate (in the interval and in all) at the station of the chain", due -> {
            RetryChains x = threeRates();
            x.lay(1, 1200);
            x.report(1, 4, true);
            due.row("triesOf(1, ..)", rate -> x.triesOf(1, rate), 3, 1, 0);
            due.row("triesOf(0, ..)", rate -> x.triesOf(0, rate), 0, 0, 0);
            due.is("update(0)", x.update(0), 0);
            due.is("update(1)", x.update(1), 2);
            due.row("estimate(1, ..)", rate -> x.estimate(1, rate), 0, 65536, NONE);
            x.lay(1, 1200);
            x.report(1, 1, true);
            due.is("in all", x.triesOf(1, 0) + x.triesOf(1, 1), 5);
            due.is("in the interval", x.update(1), 1);
        });
        s.holds("if the frame was delivered, the last try is a success, all others fail", due -> {
            int[] rates = {0, 0, 0, 1, 1, 1, 0, 0, 0, 2};
            for (int tries = 1; tries <= 10; tries++) {
                RetryChains x = threeRates();
                x.report(0, tries, true);
                for (int rate = 0; rate < 3; rate++) {
                    int successes = rate == rates[tries - 1] ? 1 : 0;
                    due.is("successesOf(0, " + rate + ") after " + tries, x.successesOf(0, rate), successes);
                }
            }
            RetryChains x = threeRates();
            x.report(0, 10, false);
            due.row("successesOf(0, ..) of a lost frame", rate -> x.successesOf(0, rate), 0, 0, 0);
            due.row("triesOf(0, ..) of a lost frame", rate -> x.triesOf(0, rate), 6, 3, 1);
        });
    }

    /** Chain 0 is plain, chain 1 is a sampling one; each has four tries. */
    private static RetryChains plainAndSampling() {
        RetryChains x = Due.network(1, 1, 240, 1, 240, 1, 240, 1, 240);
        x.setShare(50);
        x.setBudget(100);
        x.lay(0, 100);
        x.lay(0, 100);
        return x;
    }

    private static void reportOutcome(Sentences s) {
        s.holds("the present time increases by the time that the tries take", due -> {
            RetryChains x = threeRates();
            x.pass(100);
            due.is("report(0, 5, true)", x.report(0, 5, true), 2667);
            due.is("time()", x.time(), 2767);
        });
        s.holds("the deficit of the station decreases by this time, but not below -1000000", due -> {
            // four tries of size + 252 + 67 at the rate (0, 80)
            RetryChains x = Due.network(2, 0, 80);
            x.setBudget(100);
            for (int frame = 0; frame < 57; frame++) {
                x.lay(0, 4000);
                x.report(0, 4, true);
            }
            due.is("deficit(0)", x.deficit(0), -984732);
            RetryChains y = x;
            due.is("deficit(1)", y.deficit(1), 0);
            x.lay(0, 4000);
            x.report(0, 1, true);
            x.lay(0, 2418);
            x.report(0, 4, true);
            due.is("deficit(0)", x.deficit(0), -999999);
            x.undo();
            x.undo();
            x.undo();
            x.undo();
            x.lay(0, 3498);
            x.report(0, 4, true);
            due.is("just the least one", x.deficit(0), -1000000);
            x.undo();
            x.report(0, 3, true);
            x.lay(0, 3499);
            x.report(0, 1, true);
            due.is("one less would be due", x.deficit(0), -1000000);
            x.lay(0, 4000);
            due.is("report(0, 4, true)", x.report(0, 4, true), 17276);
            due.is("it stays", x.deficit(0), -1000000);
        });
        s.holds("if the frame was delivered, its losses in succession become 0, and a fallback ends (event 4)", due -> {
            RetryChains x = Due.network(2, 1, 540);
            Due.tries(x, 0, 0, 0, 0, 1, 0, 0);
            due.is("two and two losses", x.inFallback(0), 0);
            due.is("no fallback, no event", x.events(), 0);
            Due.tries(x, 0, 0, 0);
            Due.tries(x, 1, 0, 1);
            due.is("a frame of another station ends nothing", x.inFallback(0), 1);
            Due.tries(x, 0, 0, 4);
            due.is("inFallback(0)", x.inFallback(0), 0);
            due.row("eventKind", x::eventKind, 4, 3, NONE);
            due.is("eventTime(0)", x.eventTime(0), x.time());
            due.is("delivered(0)", x.delivered(0), 2);
            Due.tries(x, 0, 0, 0, 0);
            due.is("two losses after it", x.inFallback(0), 0);
            // whatever the kind of its chain is
            for (int chain = 0; chain < 2; chain++) {
                x = plainAndSampling();
                Due.tries(x, 0, 0, 0, 0);
                x.report(chain, 1, true);
                Due.tries(x, 0, 0, 0, 0);
                due.is("two and two losses around kind " + chain, x.inFallback(0), 0);
                x = plainAndSampling();
                Due.tries(x, 0, 0, 0, 0, 0);
                x.report(chain, 1, true);
                due.row("eventKind after kind " + chain, x::eventKind, 4, 3, NONE);
                due.is("inFallback(0)", x.inFallback(0), 0);
            }
        });
        s.holds("if not, they increase by 1, and if they are 3 then and it is not in fallback, fallback begins (event 3)",
            due -> {
            RetryChains x = Due.network(1, 1, 540, 1, 240);
            Due.tries(x, 0, 0, 0, 0);
            due.is("2", x.inFallback(0), 0);
            Due.tries(x, 0, 0, 0);
            due.is("3", x.inFallback(0), 1);
            due.row("eventKind", x::eventKind, 3, NONE);
            due.is("eventTime(0)", x.eventTime(0), x.time());
            Due.tries(x, 0, 0, 0, 0, 0);
            due.is("4, 5 and 6", x.events(), 1);
            due.is("lost(0)", x.lost(0), 6);
            // 3 in a fallback that a collapse began
            x = Due.network(1, 1, 540, 1, 240);
            Due.teach(x, 0, 0, 1);
            Due.teach(x, 0, 1, 1);
            Due.tries(x, 0, 0, 0);
            Due.teach(x, 0, 1, 0);
            due.is("events()", x.events(), 2);
            Due.tries(x, 0, 0, 0, 0, 0);
            due.is("it is in fallback already", x.events(), 2);
            due.is("inFallback(0)", x.inFallback(0), 1);
            // whatever the kinds of their chains are
            x = plainAndSampling();
            due.row("kind", x::kind, 0, 1);
            x.report(1, 4, false);
            x.report(0, 4, false);
            due.is("2 of two kinds", x.inFallback(0), 0);
            Due.tries(x, 0, 0, 0);
            due.is("3 of two kinds", x.inFallback(0), 1);
            for (int chain = 0; chain < 4; chain++) {
                x.lay(0, 100);
                due.is("a fallback chain", x.kind(chain), 2);
            }
            x.report(0, 1, true);
            due.is("inFallback(0)", x.inFallback(0), 0);
            x.report(1, 4, false);
            x.report(2, 4, false);
            due.is("2 of fallback chains", x.inFallback(0), 0);
            x.report(3, 4, false);
            due.is("3 of fallback chains", x.inFallback(0), 1);
            // and also if no rate is allowed any more
            x = plainAndSampling();
            x.lay(0, 100);
            x.lay(0, 100);
            Due.allowOnly(x, 0, 0);
            x.report(0, 4, false);
            x.report(1, 4, false);
            due.is("2 of a station without rates", x.inFallback(0), 0);
            x.report(2, 4, false);
            due.is("3 of a station without rates", x.inFallback(0), 1);
            x.report(3, 1, true);
            due.is("a delivered frame of a station without rates", x.inFallback(0), 0);
            due.row("eventKind", x::eventKind, 4, 3, NONE);
        });
        s.holds("Then stations are updated whose interval has ended", due -> {
            RetryChains x = new RetryChains();
            x.addRate(1, 540);
            x.addStation();
            x.addStation();
            Due.tries(x, 1, 0, 1);
            x.pass(100000 - 327 - 1 - x.time());
            x.lay(0, 1200);
            x.lay(0, 1200);
            x.report(0, 1, true);
            due.is("at 99999", x.update(0), 1);
            due.is("estimate(1, 0)", x.estimate(1, 0), NONE);
            x.report(1, 1, true);
            due.is("at 100326", x.estimate(1, 0), 65536);
            // the third loss begins a fallback, and the update after it ends it
            RetryChains y = new RetryChains();
            y.addRate(1, 540);
            y.addStation();
            Due.tries(y, 0, 0, 0, 0);
            y.pass(99999 - y.time());
            Due.tries(y, 0, 0, 0);
            due.row("eventKind", y::eventKind, 4, 3, NONE);
            due.is("eventTime(1)", y.eventTime(1), y.time());
        });
        s.said("Then:");
    }

    private static void reportErrors(Sentences s) {
        s.holds("`chain`: number of an open chain", due -> {
            RetryChains x = fullyOpen(1);
            due.range("report(.., 1, true)", chain -> x.report(chain, 1, true), 0, 5);
            due.bad("report of a closed chain", chain -> x.report(chain, 1, true), 0, 5);
            RetryChains y = Due.network(1, 1, 540);
            due.bad("report before any chain", chain -> y.report(chain, 1, true), 0, 5);
        });
        s.holds("how many tries were made, 1 to the number of tries of all entries together", due -> {
            due.range("report(0, .., true)", tries -> threeRates().report(0, tries, true), 1, 10);
            RetryChains x = Due.network(1, 1, 540);
            x.setBudget(100000);
            due.range("report(.., .., true)", tries -> x.report(x.lay(0, 1), tries, true), 1, 28);
        });
        s.holds("the frame was delivered by the last try", due -> {
            RetryChains x = threeRates();
            x.report(0, 10, true);
            due.is("delivered(0)", x.delivered(0), 1);
            due.is("lost(0)", x.lost(0), 0);
            due.is("successesOf(0, 2)", x.successesOf(0, 2), 1);
        });
        s.holds("it was lost (then all tries must have been made)", due -> {
            RetryChains x = threeRates();
            due.bad("report(0, .., false)", tries -> x.report(0, tries, false), 1, 2, 9, 11);
            due.is("report(0, 10, false)", x.report(0, 10, false), 6902);
            due.is("lost(0)", x.lost(0), 1);
            due.is("delivered(0)", x.delivered(0), 0);
        });
        s.holds("Returns the time that the tries took", due -> {
            RetryChains x = Due.network(1, 0, 10);
            x.lay(0, 4000);
            due.is("report(0, 4, false)", x.report(0, 4, false), 4 * 32319);
            x.lay(0, 1);
            due.is("report(0, 1, true)", x.report(0, 1, true), 327);
        });
        s.holds("BAD if there is no such open chain, or tries is out of range, or ok is false and tries is less than the number "
                + "of all tries", due -> {
            RetryChains x = threeRates();
            due.bad("report(.., 1, true)", chain -> x.report(chain, 1, true), 1, 6, -1, MIN, MAX);
            due.bad("report(0, .., true)", tries -> x.report(0, tries, true), 0, 11, -1, MIN, MAX);
            due.bad("report(0, .., false)", tries -> x.report(0, tries, false), 0, 11, 9, 1, MIN, MAX);
            due.is("the chain is still open", x.kind(0), 0);
            due.is("triesOf(0, 0)", x.triesOf(0, 0), 0);
            due.is("time()", x.time(), 0);
        });
        s.holds("OVERFLOW if the present time would be too great", due -> {
            RetryChains x = threeRates();
            x.pass(MAX - 550);
            due.is("one too much", x.report(0, 1, true), OVERFLOW);
            due.is("much too much", x.report(0, 10, false), OVERFLOW);
            due.is("kind(0)", x.kind(0), 0);
            due.is("time()", x.time(), MAX - 550);
            RetryChains y = threeRates();
            y.pass(MAX - 551);
            due.is("the last microsecond", y.report(0, 1, true), 551);
            due.is("time()", y.time(), MAX);
        });
    }

    private static void pass(Sentences s) {
        s.in("Promise 13");
        s.said("Lets time pass (act)");
        s.holds("Then stations are updated whose interval has ended", due -> {
            RetryChains x = new RetryChains();
            x.addRate(1, 540);
            x.addStation();
            x.addStation();
            Due.tries(x, 0, 0, 1);
            Due.tries(x, 1, 0, 2);
            x.pass(99999 - x.time());
            due.row("estimate(.., 0) at 99999", station -> x.estimate(station, 0), NONE, NONE);
            x.pass(0);
            due.row("estimate(.., 0) at 99999", station -> x.estimate(station, 0), NONE, NONE);
            x.pass(1);
            due.row("estimate(.., 0) at 100000", station -> x.estimate(station, 0), 65536, 32768);
        });
        s.holds("`length`: 0 or more", due -> {
            due.range("pass", length -> new RetryChains().pass(length), 0, MAX);
            RetryChains x = new RetryChains();
            due.is("pass(0)", x.pass(0), 0);
            due.is("undo(): an act", x.undo(), 0);
        });
        s.holds("Returns the present time then", due -> {
            RetryChains x = new RetryChains();
            int[] lengths = {7, 0, 100, MAX - 107, 0};
            due.row("pass", call -> x.pass(lengths[call]), 7, 7, 107, MAX, MAX);
        });
        s.holds("BAD if length is negative", due -> {
            RetryChains x = new RetryChains();
            x.pass(10);
            due.bad("pass", x::pass, -1, -10, MIN);
            due.is("time()", x.time(), 10);
            x.pass(MAX - 10);
            due.bad("pass at the end of time", x::pass, -1, MIN);
        });
        s.holds("OVERFLOW if the present time would be too great", due -> {
            RetryChains x = new RetryChains();
            due.is("pass(MAX)", x.pass(MAX), MAX);
            due.is("pass(1)", x.pass(1), OVERFLOW);
            due.is("pass(MAX)", x.pass(MAX), OVERFLOW);
            due.is("time()", x.time(), MAX);
            x.undo();
            x.pass(1);
            due.is("pass(MAX)", x.pass(MAX), OVERFLOW);
            due.is("pass(MAX - 1)", x.pass(MAX - 1), MAX);
            due.is("an interval that would end later", x.addStation(), 0);
            due.is("pass(0)", x.pass(0), MAX);
        });
    }

    private static void update(Sentences s) {
        s.in("Promise 14");
        s.holds("Updates a station now (act), whether its interval has ended or not", due -> {
            RetryChains x = Due.network(2, 1, 540);
            Due.tries(x, 0, 0, 1);
            Due.tries(x, 1, 0, 1);
            x.update(0);
            due.row("estimate(.., 0)", station -> x.estimate(station, 0), 65536, NONE);
            due.is("undo()", x.undo(), 4);
            due.is("estimate(0, 0)", x.estimate(0, 0), NONE);
        });
        s.holds("`station`: number of a station", due -> {
            RetryChains x = Due.network(3, 1, 540);
            due.range("update", x::update, 0, 2);
            due.is("update(3) of four", Due.network(4).update(3), 0);
        });
        s.holds("Returns for how many rates there were tries in the interval", due -> {
            for (int rates = 0; rates <= 8; rates++) {
                RetryChains x = Due.network(1, 1, 540, 1, 540, 1, 540, 1, 540, 1, 540, 1, 540, 1, 540, 1, 540);
                for (int rate = 0; rate < rates; rate++) {
                    Due.tries(x, 0, 7 - rate, 2);
                }
                due.is("update(0)", x.update(0), rates);
                due.is("update(0) again", x.update(0), 0);
            }
            RetryChains x = Due.network(1, 1, 540, 1, 540);
            Due.tries(x, 0, 1, 1);
            x.allow(0, 1, false);
            due.is("a rate that is forbidden then", x.update(0), 1);
        });
        s.holds("BAD if there is no such station", due -> {
            due.bad("update", station -> Due.network(2, 1, 540).update(station), 2, 3, 4, -1, MIN, MAX);
            due.is("update(0) of none", new RetryChains().update(0), BAD);
        });
    }
}
