import java.util.function.IntUnaryOperator;

/** The sentences under UPDATES. */
final class UpdateSentences {
    private static final int NONE = Due.NONE;

    private UpdateSentences() {
    }

    static void hold(Sentences s) {
        s.in("UPDATES");
        s.said("The interval of a station ends at a certain time", "An update of a station:", "With an estimate:");
        ends(s);
        whoIsUpdated(s);
        samples(s);
        collapse(s);
        afterCollapse(s);
        otherwise(s);
        changes(s);
        afterAnUpdate(s);
        newFirst(s);
    }

    /** A station that is added at the time, and that has a try which shows when it is updated. */
    private static RetryChains since(int time, int interval) {
        RetryChains x = new RetryChains();
        x.addRate(1, 540);
        x.pass(time);
        x.setInterval(interval);
        x.addStation();
        Due.tries(x, 0, 0, 1);
        return x;
    }

    private static void updatedAt(Due due, RetryChains x, int time) {
        x.pass(time - 1 - x.time());
        due.is("estimate(0, 0) before " + time, x.estimate(0, 0), NONE);
        x.pass(1);
        due.is("estimate(0, 0) at " + time, x.estimate(0, 0), 65536);
    }

    /** The estimate after a try at the end of time, by a station whose interval began shortly before. */
    private static int lateTries(boolean wasUpdated) {
        RetryChains x = new RetryChains();
        x.addRate(1, 540);
        x.setInterval(1000);
        if (wasUpdated) {
            x.addStation();
        }
        x.pass(Integer.MAX_VALUE - 999);
        if (!wasUpdated) {
            x.addStation();
        }
        Due.tries(x, 0, 0, 1);
        x.pass(Integer.MAX_VALUE - x.time());
        x.pass(0);
        return x.estimate(0, 0);
    }

    private static void ends(Sentences s) {
        s.holds("when it is added, this is the present time plus the interval length", due -> {
            updatedAt(due, since(0, 1000), 1000);
            updatedAt(due, since(700, 1000), 1700);
            updatedAt(due, since(700, 1000000), 1000700);
            RetryChains x = new RetryChains();
            x.addRate(1, 540);
            x.addStation();
            Due.tries(x, 0, 0, 1);
            updatedAt(due, x, 100000);
            // an end that is later than 2147483647 never comes
            due.is("added late", lateTries(false), NONE);
        });
        s.holds("after each update it is the present time plus the interval length", due -> {
            RetryChains x = since(0, 1000);
            x.undo();
            x.pass(1700);
            Due.tries(x, 0, 0, 1);
            x.update(0);
            int before = x.time();
            Due.tries(x, 0, 0, 0);
            x.pass(before + 999 - x.time());
            due.is("before its end", x.estimate(0, 0), 65536);
            x.pass(1);
            due.is("1000 after update()", x.estimate(0, 0), 49152);
            x.pass(1234);
            Due.tries(x, 0, 0, 1);
            x.pass(before + 2000 + 234 + 999 - x.time());
            due.is("before its end", x.estimate(0, 0), 49152);
            x.pass(1);
            due.is("1000 after a late end", x.estimate(0, 0), 53248);
            due.is("an end that is later than 2147483647", lateTries(true), NONE);
        });
        s.holds("A later change of the interval length does not move an end that is set already", due -> {
            RetryChains x = since(0, 5000);
            x.setInterval(1000);
            updatedAt(due, x, 5000);
            x = since(0, 5000);
            x.setInterval(1000000);
            updatedAt(due, x, 5000);
        });
    }

    private static void whoIsUpdated(Sentences s) {
        s.holds("Whenever the present time has advanced (by pass(), report(), or a frame of simulate())", due -> {
            RetryChains x = since(0, 1000);
            x.pass(1000 - x.time());
            due.is("by pass()", x.estimate(0, 0), 65536);
            x = since(0, 1000);
            x.pass(1000 - 151 - x.time());
            due.is("before it", x.estimate(0, 0), NONE);
            x.lay(0, 1);
            due.is("report(0, 1, true)", x.report(0, 1, true), 151);
            due.is("by report()", x.estimate(0, 0), 65536);
            x = since(0, 1000);
            x.setQuality(0, 0, 1000);
            x.pass(1000 - 302 - x.time());
            x.simulate(0, 1, 1, 1);
            due.is("before it", x.estimate(0, 0), NONE);
            x.simulate(0, 3, 1, 1);
            due.is("by the first of three frames", x.estimate(0, 0), 65536);
            due.is("the others are of the next interval", x.update(0), 1);
            x = since(0, 1000);
            x.pass(1000 - 151 - x.time());
            x.simulate(0, 1, 1, 1);
            due.is("not earlier than the frame is reported", x.update(0), 0);
        });
        s.holds("each station whose interval has ended (its end is the present time or before)", due -> {
            updatedAt(due, since(0, 1000), 1000);
            RetryChains x = since(0, 1000);
            x.pass(1001 - x.time());
            due.is("estimate(0, 0) at 1001", x.estimate(0, 0), 65536);
            x = since(0, 1000);
            x.addStation();
            Due.tries(x, 1, 0, 1);
            x.pass(1000 - x.time());
            due.is("estimate(0, 0)", x.estimate(0, 0), 65536);
            due.is("estimate(1, 0): its end is later", x.estimate(1, 0), NONE);
            x.lay(0, 4000);
            x.report(0, 4, true);
            due.is("by the report of another station", x.estimate(1, 0), 65536);
        });
        s.holds("is updated once", due -> {
            RetryChains x = collapsing();
            x.pass(500000);
            due.is("collapse and fallback, five intervals later", x.events(), 2);
            due.is("a second update would end it", x.inFallback(0), 1);
            x.pass(99999);
            due.is("inFallback(0)", x.inFallback(0), 1);
            x.pass(1);
            due.is("inFallback(0)", x.inFallback(0), 0);
        });
        s.holds("in ascending order", due -> {
            RetryChains x = new RetryChains();
            x.addRate(1, 540);
            for (int station = 0; station < 4; station++) {
                x.addStation();
            }
            for (int station = 3; station >= 0; station--) {
                Due.tries(x, station, 0, 0, 0, 0);
            }
            x.pass(100000 - x.time());
            due.is("events()", x.events(), 8);
            for (int station = 0; station < 4; station++) {
                due.is("eventKind", x.eventKind(3 - station), 4);
                due.is("eventStation", x.eventStation(3 - station), station);
            }
        });
    }

    /** Two rates with estimates that both have failed since. */
    private static RetryChains collapsing() {
        RetryChains x = new RetryChains();
        x.addRate(1, 540);
        x.addRate(1, 240);
        x.addStation();
        Due.teach(x, 0, 0, 1);
        Due.teach(x, 0, 1, 1);
        Due.tries(x, 0, 0, 0);
        Due.tries(x, 0, 1, 0);
        return x;
    }

    private static void samples(Sentences s) {
        s.holds("for each rate with tries in the interval let sample be successes * 65536 / tries", due -> {
            RetryChains x = Due.network(1, 1, 540, 1, 240, 1, 60);
            Due.tries(x, 0, 0, 1, 2);
            Due.tries(x, 0, 1, 3);
            x.update(0);
            due.is("2 of 3", x.estimate(0, 0), 43690);
            due.is("1 of 3", x.estimate(0, 1), 21845);
            due.is("without tries", x.estimate(0, 2), NONE);
            x.update(0);
            due.is("without tries it stays", x.estimate(0, 0), 43690);
            Due.teach(x, 0, 2, 0);
            due.is("0 of 4", x.estimate(0, 2), 0);
        });
        s.holds("let t be 1 if sample - estimate is at least 19661", due -> {
            due.is("13107, 32768 (+19661), 65536", third(new int[] {1, 0}, new int[] {2}, new int[] {1}), 65536);
            due.is("0, 19660 (+19660), 65536", third(new int[] {0}, new int[] {3, 3, 4}, new int[] {1}),
                (196 * 99 + 65536) / 100);
        });
        s.holds("-1 if it is at most -19661", due -> {
            due.is("65536, 45875 (-19661), 0", third(new int[] {1}, new int[] {1, 1, 1, 1, 2, 2, 2}, new int[] {0}), 0);
            due.is("19660, 0 (-19660), 0", third(new int[] {3, 3, 4}, new int[] {0}, new int[] {0}), 19463 * 99 / 100);
        });
        s.holds("For those of them that have an estimate, .. otherwise 0", due -> {
            RetryChains x = Due.network(1, 1, 540);
            Due.teach(x, 0, 0, 2);
            Due.teach(x, 0, 0, 1);
            Due.teach(x, 0, 0, 2);
            due.is("t is 0 between two jumps", x.estimate(0, 0), (40960 * 75 + 32768 * 25) / 100);
            Due.teach(x, 0, 0, 1);
            due.is("so this is a first one again", x.estimate(0, 0), (38912 * 75 + 65536 * 25) / 100);
            due.is("events()", x.events(), 0);
        });
        s.said("For those of them that have an estimate, let t be 1 if sample - estimate is at least 19661");
    }

    /** A first estimate and two samples; with the weight 1 the estimate hardly moves, but by a sudden change. */
    private static int third(int[] first, int[] second, int[] third) {
        RetryChains x = Due.network(1, 1, 540);
        x.setWeight(1);
        Due.teach(x, 0, 0, first);
        Due.teach(x, 0, 0, second);
        Due.teach(x, 0, 0, third);
        return x.estimate(0, 0);
    }

    /** Rates 0, 1 and 2 are certain, 3 has no estimate. */
    private static RetryChains certain() {
        RetryChains x = Due.network(1, 1, 540, 1, 240, 1, 60, 0, 10);
        Due.teach(x, 0, 0, 1);
        Due.teach(x, 0, 1, 1);
        Due.teach(x, 0, 2, 1);
        return x;
    }

    /** The estimates after an update that is a collapse. */
    private static IntUnaryOperator collapsed(RetryChains x) {
        x.update(0);
        return rate -> x.inFallback(0) == 1 ? x.estimate(0, rate) : Due.BAD;
    }

    private static void collapse(Sentences s) {
        s.holds("- Collapse: if two or more rates with tries in the interval had an estimate", due -> {
            RetryChains x = certain();
            Due.teach(x, 0, 0, 0);
            due.is("one", x.inFallback(0), 0);
            due.is("one: the average", x.estimate(0, 0), 49152);
            x = certain();
            Due.tries(x, 0, 0, 0);
            Due.teach(x, 0, 3, 0);
            due.is("one, and one without an estimate", x.inFallback(0), 0);
            x = certain();
            Due.tries(x, 0, 0, 0);
            Due.teach(x, 0, 1, 0);
            due.is("two", x.inFallback(0), 1);
            x = certain();
            Due.tries(x, 0, 0, 0);
            x.update(0);
            Due.teach(x, 0, 1, 0);
            due.is("two in two intervals", x.inFallback(0), 0);
            x = certain();
            x.update(0);
            due.is("none", x.inFallback(0), 0);
            x = certain();
            Due.tries(x, 0, 0, 0);
            Due.tries(x, 0, 1, 0);
            x.allow(0, 0, false);
            x.allow(0, 1, false);
            x.update(0);
            due.is("two that are forbidden then", x.inFallback(0), 1);
        });
        s.holds("and t is -1 for all of these", due -> {
            RetryChains x = certain();
            Due.tries(x, 0, 0, 0);
            Due.tries(x, 0, 1, 0);
            Due.teach(x, 0, 2, 1);
            due.is("not for one of three", x.inFallback(0), 0);
            due.is("estimate(0, 0)", x.estimate(0, 0), 49152);
            x = certain();
            Due.tries(x, 0, 0, 1, 1, 1, 1, 2, 2, 2);
            Due.teach(x, 0, 1, 1, 1, 1, 1, 2, 2, 2);
            due.is("65536 to 45875 is a jump of -19661", x.inFallback(0), 1);
            x = Due.network(1, 1, 540, 1, 240);
            Due.teach(x, 0, 0, 3, 3, 4);
            Due.teach(x, 0, 1, 1);
            Due.tries(x, 0, 0, 0);
            Due.teach(x, 0, 1, 0);
            due.is("19660 to 0 is none", x.inFallback(0), 0);
            x = Due.network(1, 1, 540, 1, 240);
            Due.teach(x, 0, 0, 0);
            Due.teach(x, 0, 1, 1);
            Due.tries(x, 0, 0, 1);
            Due.teach(x, 0, 1, 0);
            due.is("1 for one of two", x.inFallback(0), 0);
            x = certain();
            Due.tries(x, 0, 0, 0);
            Due.tries(x, 0, 1, 0);
            Due.tries(x, 0, 2, 1);
            x.allow(0, 2, false);
            x.update(0);
            due.is("not for one that is forbidden then", x.inFallback(0), 0);
        });
        s.holds("the estimates of all rates with tries in the interval become their samples", due -> {
            RetryChains x = certain();
            Due.tries(x, 0, 0, 0);
            Due.tries(x, 0, 1, 3, 0);
            Due.teach(x, 0, 3, 1);
            due.is("estimate(0, 0)", x.estimate(0, 0), 0);
            due.is("estimate(0, 1)", x.estimate(0, 1), 9362);
            due.is("estimate(0, 3): it had none", x.estimate(0, 3), 65536);
            x = certain();
            Due.tries(x, 0, 0, 0);
            Due.tries(x, 0, 1, 0, 0, 3);
            due.is("not in fallback before", x.inFallback(0), 0);
            due.row("estimate(0, ..)", collapsed(x), 0, 5957, 32768, NONE);
            x = certain();
            Due.tries(x, 0, 1, 0, 3);
            Due.tries(x, 0, 0, 0, 0, 0);
            due.is("in fallback before", x.inFallback(0), 1);
            due.row("estimate(0, ..)", collapsed(x), 0, 9362, 32768, NONE);
            x = certain();
            Due.tries(x, 0, 0, 0);
            Due.tries(x, 0, 1, 3, 0);
            Due.allowOnly(x, 0, 0);
            due.row("estimate(0, ..) of rates that are all forbidden then", collapsed(x), 0, 9362, 32768, NONE);
        });
        s.holds("and their tendencies 0", due -> {
            RetryChains x = Due.network(1, 1, 540, 1, 240);
            x.setWeight(1);
            Due.teach(x, 0, 0, 1);
            Due.teach(x, 0, 1, 1);
            Due.teach(x, 0, 0, 2);
            due.is("a first jump down", x.estimate(0, 0), 65208);
            Due.tries(x, 0, 0, 2);
            Due.teach(x, 0, 1, 2);
            due.is("the collapse", x.estimate(0, 0), 32768);
            Due.teach(x, 0, 0, 0);
            due.is("a first jump down again", x.estimate(0, 0), 32440);
            Due.teach(x, 0, 1, 0);
            due.is("a first jump down of the other", x.estimate(0, 1), 32440);
        });
    }

    private static void afterCollapse(Sentences s) {
        s.holds("all other estimates are halved (/ 2)", due -> {
            RetryChains x = certain();
            Due.teach(x, 0, 3, 3);
            due.is("estimate(0, 3)", x.estimate(0, 3), 21845);
            x.addRate(1, 100);
            x.addRate(1, 100);
            Due.teach(x, 0, 5, 0);
            Due.tries(x, 0, 0, 0);
            Due.tries(x, 0, 1, 0);
            x.allow(0, 2, false);
            x.update(0);
            due.is("65536 / 2, also if it is forbidden", x.estimate(0, 2), 32768);
            due.is("21845 / 2", x.estimate(0, 3), 10922);
            due.is("none", x.estimate(0, 4), NONE);
            due.is("0 / 2", x.estimate(0, 5), 0);
            // what is halved keeps its tendency
            x = Due.network(1, 1, 540, 1, 240, 1, 60);
            x.setWeight(1);
            Due.teach(x, 0, 0, 1);
            Due.teach(x, 0, 1, 1);
            Due.teach(x, 0, 2, 1);
            Due.teach(x, 0, 2, 2);
            Due.tries(x, 0, 0, 0);
            Due.teach(x, 0, 1, 0);
            due.is("65208 / 2", x.estimate(0, 2), 32604);
            Due.teach(x, 0, 2, 0);
            due.is("a second jump down", x.estimate(0, 2), 0);
        });
        s.holds("the station is in fallback then", due -> {
            RetryChains x = collapsing();
            x.addStation();
            due.is("inFallback(0)", x.inFallback(0), 0);
            x.update(0);
            due.is("inFallback(0)", x.inFallback(0), 1);
            due.is("inFallback(1)", x.inFallback(1), 0);
            x.lay(0, 1);
            due.is("kind(0)", x.kind(0), 2);
        });
        s.holds("Event 2 is logged", due -> {
            RetryChains x = collapsing();
            int before = x.events();
            x.update(0);
            due.is("events()", x.events(), before + 2);
            due.is("eventKind(1)", x.eventKind(1), 2);
            due.is("eventStation(1)", x.eventStation(1), 0);
            due.is("eventRate(1)", x.eventRate(1), NONE);
            due.is("eventTime(1)", x.eventTime(1), x.time());
        });
        s.holds("if it was not in fallback before, event 3, too", due -> {
            RetryChains x = collapsing();
            x.update(0);
            due.is("eventKind(0)", x.eventKind(0), 3);
            due.is("eventRate(0)", x.eventRate(0), NONE);
            x = collapsing();
            Due.tries(x, 0, 0, 0);
            due.is("three losses", x.inFallback(0), 1);
            due.is("events()", x.events(), 1);
            x.update(0);
            due.is("events()", x.events(), 2);
            due.is("eventKind(0)", x.eventKind(0), 2);
            due.is("inFallback(0)", x.inFallback(0), 1);
        });
    }

    private static void otherwise(Sentences s) {
        s.holds("Otherwise, for each rate with tries in the interval, in ascending order", due -> {
            RetryChains x = Due.network(1, 1, 540, 1, 240, 1, 60);
            for (int round = 0; round < 3; round++) {
                for (int rate = 2; rate >= 0; rate--) {
                    Due.tries(x, 0, rate, round == 0 ? 4 : 1);
                }
                due.is("update(0)", x.update(0), 3);
            }
            due.is("three changes", x.events(), 3);
            for (int k = 0; k < 3; k++) {
                due.is("eventKind(" + k + ")", x.eventKind(k), 1);
                due.is("eventRate(" + k + ")", x.eventRate(k), 2 - k);
            }
            // a rate that is forbidden after its tries learns, too
            x = Due.network(1, 1, 540, 1, 240);
            int[] estimates = {65536, 49152, 0};
            for (int round = 0; round < 3; round++) {
                Due.tries(x, 0, 1, round == 0 ? 1 : 0);
                x.allow(0, 1, false);
                x.update(0);
                due.is("forbidden, round " + round, x.estimate(0, 1), estimates[round]);
            }
            due.is("the sudden change of a forbidden rate", x.eventRate(0), 1);
            x = Due.network(1, 1, 540, 1, 240);
            x.setWeight(1);
            int[][] frames = {{1}, {2}, {2}, {0}};
            for (int[] round : frames) {
                Due.tries(x, 0, 1, round);
                x.allow(0, 1, false);
                x.update(0);
            }
            due.is("the tendency was 0 after it", x.estimate(0, 1), 32440);
        });
        s.holds("without an estimate, the estimate becomes the sample (the tendency stays 0)", due -> {
            RetryChains x = Due.network(1, 1, 540);
            Due.teach(x, 0, 0, 2);
            due.is("the sample, not a share of it", x.estimate(0, 0), 32768);
            Due.teach(x, 0, 0, 1);
            due.is("a first jump up", x.estimate(0, 0), 40960);
            due.is("events()", x.events(), 0);
            x = Due.network(1, 1, 540);
            Due.teach(x, 0, 0, 0);
            due.is("a sample of 0", x.estimate(0, 0), 0);
            Due.teach(x, 0, 0, 2);
            due.is("0 is an estimate", x.estimate(0, 0), 8192);
        });
    }

    private static void changes(Sentences s) {
        s.holds("if t is not 0 and equals the tendency, this is a sudden change", due -> {
            RetryChains x = Due.network(1, 1, 540);
            Due.teach(x, 0, 0, 1);
            Due.teach(x, 0, 0, 1);
            due.is("0 equals 0, but is no change", x.events(), 0);
            Due.teach(x, 0, 0, 0);
            due.is("-1 after 0", x.estimate(0, 0), 49152);
            Due.tries(x, 0, 0, 1, 1, 1, 1);
            x.setWeight(1);
            x.update(0);
            Due.teach(x, 0, 0, 0);
            due.is("-1 after 0 again", x.events(), 0);
            int before = x.estimate(0, 0);
            Due.teach(x, 0, 0, 0);
            due.is("-1 after -1", x.estimate(0, 0), 0);
            due.is("it was above 0", before > 0 ? 1 : 0, 1);
            due.is("events()", x.events(), 1);
            x = Due.network(1, 1, 540);
            x.setWeight(50);
            Due.teach(x, 0, 0, 2);
            Due.teach(x, 0, 0, 1);
            due.is("1", x.estimate(0, 0), 49152);
            Due.teach(x, 0, 0, 0);
            due.is("-1 after 1", x.estimate(0, 0), 24576);
            Due.teach(x, 0, 0, 1);
            due.is("1 after -1", x.estimate(0, 0), 45056);
            due.is("events()", x.events(), 0);
            Due.teach(x, 0, 0, 1);
            due.is("1 after 1", x.estimate(0, 0), 65536);
            x = Due.network(1, 1, 540);
            x.setWeight(100);
            Due.teach(x, 0, 0, 1);
            Due.teach(x, 0, 0, 0);
            due.is("-1 after 0, weight 100", x.estimate(0, 0), 0);
            Due.teach(x, 0, 0, 1);
            due.is("1 after -1, weight 100", x.estimate(0, 0), 65536);
            Due.teach(x, 0, 0, 0);
            Due.teach(x, 0, 0, 1);
            due.is("1 after -1 after 1, weight 100", x.estimate(0, 0), 65536);
            due.is("these are no changes", x.events(), 0);
        });
        s.holds("the estimate becomes the sample, the tendency 0, event 1 is logged", due -> {
            RetryChains x = Due.network(1, 1, 540, 1, 540);
            x.setWeight(1);
            Due.teach(x, 0, 0, 1);
            Due.teach(x, 0, 1, 1);
            Due.teach(x, 0, 1, 2);
            due.is("events()", x.events(), 0);
            Due.teach(x, 0, 1, 2);
            due.is("the sample", x.estimate(0, 1), 32768);
            due.is("events()", x.events(), 1);
            due.is("eventKind(0)", x.eventKind(0), 1);
            due.is("eventStation(0)", x.eventStation(0), 0);
            due.is("eventRate(0)", x.eventRate(0), 1);
            due.is("eventTime(0)", x.eventTime(0), x.time());
            Due.teach(x, 0, 1, 0);
            due.is("the tendency was 0", x.estimate(0, 1), 32440);
            due.is("events()", x.events(), 1);
        });
        s.holds("If not, the estimate becomes (estimate * (100 - weight) + sample * weight) / 100", due -> {
            for (int weight : new int[] {1, 25, 33, 99, 100}) {
                RetryChains x = Due.network(1, 1, 540);
                x.setWeight(weight);
                Due.teach(x, 0, 0, 1, 2);
                Due.teach(x, 0, 0, 2);
                int average = (43690 * (100 - weight) + 32768 * weight) / 100;
                due.is("43690 and 32768, weight " + weight, x.estimate(0, 0), average);
                Due.teach(x, 0, 0, 3, 1, 3);
                average = (average * (100 - weight) + 28086 * weight) / 100;
                due.is("and 28086, weight " + weight, x.estimate(0, 0), average);
            }
        });
        s.holds("and the tendency t", due -> {
            RetryChains x = Due.network(1, 1, 540);
            x.setWeight(1);
            Due.teach(x, 0, 0, 1);
            Due.teach(x, 0, 0, 0);
            Due.teach(x, 0, 0, 1);
            Due.teach(x, 0, 0, 0);
            due.is("a calm sample between: no change", x.events(), 0);
            x.update(0);
            Due.teach(x, 0, 0, 0);
            due.is("an update without tries between: a change", x.events(), 1);
        });
    }

    private static void afterAnUpdate(Sentences s) {
        s.holds("After this, if the station was in fallback, it is not any more, and event 4 is logged", due -> {
            RetryChains x = Due.network(1, 1, 540, 1, 240);
            Due.teach(x, 0, 0, 1);
            Due.teach(x, 0, 1, 2);
            Due.teach(x, 0, 0, 0);
            Due.tries(x, 0, 0, 0, 0, 0);
            x.update(0);
            due.row("eventKind after a change that brings a new first", x::eventKind, 5, 4, 1, 3, NONE);
            due.is("eventRate(1)", x.eventRate(1), NONE);
            due.is("eventTime(1)", x.eventTime(1), x.time());
            due.is("inFallback(0)", x.inFallback(0), 0);
            x.update(0);
            due.is("no fallback, no event", x.events(), 4);
            Due.tries(x, 0, 0, 0, 0, 0);
            Due.allowOnly(x, 0, 0);
            x.update(0);
            due.is("also if no rate is allowed", x.inFallback(0), 0);
            due.row("eventKind", x::eventKind, 4, 3, 5);
            x = collapsing();
            x.update(0);
            x.update(0);
            due.is("also without tries", x.inFallback(0), 0);
            due.is("eventKind(0)", x.eventKind(0), 4);
        });
        s.holds("In both cases the tries and successes of the interval .. become 0 then", due -> {
            RetryChains x = Due.network(1, 1, 540, 1, 240);
            Due.teach(x, 0, 0, 1, 1, 1);
            due.is("no tries are left", x.update(0), 0);
            Due.teach(x, 0, 0, 2);
            due.is("no successes are left", x.estimate(0, 0), 57344);
            x = collapsing();
            due.is("update(0)", x.update(0), 2);
            due.is("after a collapse", x.update(0), 0);
            Due.teach(x, 0, 0, 2);
            due.is("estimate(0, 0)", x.estimate(0, 0), 8192);
        });
        s.holds("In both cases the tries and successes of the interval and the losses in succession", due -> {
            RetryChains x = Due.network(1, 1, 540, 1, 240);
            Due.tries(x, 0, 0, 0, 0);
            x.update(0);
            Due.tries(x, 0, 0, 0, 0);
            due.is("two losses and two losses", x.inFallback(0), 0);
            Due.tries(x, 0, 0, 0);
            due.is("and one more", x.inFallback(0), 1);
            x.update(0);
            due.is("the update ends the fallback", x.inFallback(0), 0);
            Due.tries(x, 0, 0, 0, 0);
            due.is("three losses, and two after the update", x.inFallback(0), 0);
            Due.tries(x, 0, 0, 0);
            due.is("and the third one", x.inFallback(0), 1);
            due.row("eventKind", x::eventKind, 3, 4, 3, NONE);
        });
        s.holds("the roles are filled anew", due -> {
            RetryChains x = certain();
            Due.tries(x, 0, 0, 0);
            Due.teach(x, 0, 1, 0);
            due.row("role(0, ..) after a collapse", role -> x.role(0, role), 2, 0, 2, 3);
            Due.teach(x, 0, 3, 1);
            due.row("role(0, ..) after another update", role -> x.role(0, role), 2, 3, 3, 3);
        });
    }

    private static void newFirst(Sentences s) {
        s.holds("if another rate is first than before, event 5 is logged with this rate", due -> {
            RetryChains x = Due.network(2, 1, 540, 1, 240);
            Due.tries(x, 1, 1, 4);
            due.is("role(1, 0)", x.role(1, 0), 0);
            x.update(1);
            due.is("role(1, 0)", x.role(1, 0), 1);
            due.is("events()", x.events(), 1);
            due.is("eventKind(0)", x.eventKind(0), 5);
            due.is("eventStation(0)", x.eventStation(0), 1);
            due.is("eventRate(0)", x.eventRate(0), 1);
            due.is("eventTime(0)", x.eventTime(0), x.time());
            x.update(1);
            due.is("the same first", x.events(), 1);
            x.allow(1, 1, false);
            x.update(1);
            due.is("allow() made the other one first before", x.events(), 1);
            x.allow(1, 0, false);
            x.update(1);
            due.is("no first at all", x.events(), 1);
            x.allow(1, 1, true);
            x.addRate(1, 60);
            x.update(1);
            due.is("nor addRate()", x.events(), 1);
            // a new second one is no new first one
            Due.tries(x, 0, 0, 1);
            Due.tries(x, 0, 1, 2);
            x.update(0);
            due.is("events()", x.events(), 1);
        });
    }
}
