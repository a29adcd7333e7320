/** The sentences under NUMBERS and RATES. */
final class RateSentences {
    private static final int BAD = Due.BAD, FULL = Due.FULL, OVERFLOW = Due.OVERFLOW, NONE = Due.NONE;
    private static final int MAX = Integer.MAX_VALUE;

    private RateSentences() {
    }

    static void hold(Sentences s) {
        numbers(s);
        rates(s);
        airTimes(s);
        tries(s);
    }

    private static void numbers(Sentences s) {
        s.in("NUMBERS");
        s.said("Times are in microseconds", "Probabilities are ints in units of 1/65536");
        s.holds("the present time is an int, 0 at first", due -> {
            RetryChains x = new RetryChains();
            due.is("time()", x.time(), 0);
            due.is("pass(MAX)", x.pass(MAX), MAX);
            due.is("time()", x.time(), MAX);
            due.is("pass(1)", x.pass(1), OVERFLOW);
            due.is("time()", x.time(), MAX);
        });
        s.holds("65536 is certain", due -> {
            RetryChains x = Due.network(1, 1, 540);
            Due.teach(x, 0, 0, 1, 1, 1);
            due.is("estimate(0, 0)", x.estimate(0, 0), 65536);
            x.lay(0, 1200);
            due.is("deliveryChance(0)", x.deliveryChance(0), 65536);
            due.is("expectedTime(0): one try", x.expectedTime(0), 327);
        });
        s.holds("The sign / means integer division of numbers that are not negative, rounded down", due -> {
            RetryChains x = Due.network(1, 1, 540);
            Due.teach(x, 0, 0, 1, 2);
            due.is("65536 * 2 / 3 = 43690.7", x.estimate(0, 0), 43690);
            x.lay(0, 1200);
            due.is("260 + 9 * 15 / 2 = 327.5", x.report(0, 1, true), 327);
        });
        s.holds("a / b \"rounded up\" is (a + b - 1) / b", due -> {
            RetryChains x = Due.network(0, 0, 79);
            due.is("80 * 78 / 79 = 78.99", x.airTime(0, 78), 252 + 79);
            due.is("80 * 79 / 79 = 80", x.airTime(0, 79), 252 + 80);
            due.is("80 * 80 / 79 = 81.01", x.airTime(0, 80), 252 + 82);
        });
    }

    private static void rates(Sentences s) {
        s.in("RATES");
        s.holds("There are at most 8 rates, numbered from 0 in the order in which they are added", due -> {
            RetryChains x = new RetryChains();
            for (int rate = 0; rate < 8; rate++) {
                due.is("airTime of a rate before it is added", x.airTime(rate, 100), BAD);
                due.is("addRate(0, ..)", x.addRate(0, 80 - 10 * rate), rate);
            }
            due.is("a ninth rate", x.addRate(0, 80), FULL);
            due.is("airTime(8, 100)", x.airTime(8, 100), BAD);
            for (int rate = 0; rate < 8; rate++) {
                int speed = 80 - 10 * rate;
                due.is("airTime(" + rate + ", 100)", x.airTime(rate, 100), 252 + (8000 + speed - 1) / speed);
            }
        });
        s.holds("A rate has a mode (0 long, 1 symbol, 2 short) and a speed from 10 to 10000 (in 100 kbit/s)", due -> {
            due.range("addRate(.., 10)", mode -> new RetryChains().addRate(mode, 10), 0, 2);
            due.range("addRate(0, ..)", speed -> new RetryChains().addRate(0, speed), 10, 10000);
            due.range("addRate(1, ..)", speed -> new RetryChains().addRate(1, speed), 10, 10000);
            due.range("addRate(2, ..)", speed -> new RetryChains().addRate(2, speed), 10, 10000);
            RetryChains x = Due.network(0, 0, 60, 1, 60, 2, 60);
            due.is("long", x.airTime(0, 100), 386);
            due.is("symbol", x.airTime(1, 100), 220);
            due.is("short", x.airTime(2, 100), 226);
        });
    }

    private static void airTimes(Sentences s) {
        s.holds("mode 0: 252 + (80 * s / speed, rounded up)", due -> {
            RetryChains x = Due.network(0, 0, 10000, 0, 10);
            due.is("80 / 10000", x.airTime(0, 1), 253);
            due.is("10000 / 10000", x.airTime(0, 125), 253);
            due.is("10080 / 10000", x.airTime(0, 126), 254);
            due.is("80 / 10", x.airTime(1, 1), 260);
            due.is("5242800 / 10", x.airTime(1, 65535), 524532);
        });
        s.holds("mode 1: 80 + 4 * n, where n is (220 + 80 * s) / (4 * speed), rounded up", due -> {
            RetryChains x = Due.network(0, 1, 75, 1, 10, 1, 10000);
            due.is("300 / 300", x.airTime(0, 1), 84);
            due.is("380 / 300", x.airTime(0, 2), 88);
            due.is("1500 / 300", x.airTime(0, 16), 100);
            due.is("1580 / 300", x.airTime(0, 17), 104);
            due.is("300 / 40", x.airTime(1, 1), 112);
            due.is("5243020 / 40", x.airTime(1, 65535), 524384);
            due.is("39980 / 40000", x.airTime(2, 497), 84);
            due.is("40060 / 40000", x.airTime(2, 498), 88);
        });
        s.holds("mode 2: 100 + (18 * n / 5, rounded up), with the same n", due -> {
            RetryChains x = Due.network(0, 2, 75, 2, 10);
            due.is("n = 1, 3.6", x.airTime(0, 1), 104);
            due.is("n = 2, 7.2, though 380 / 300 is 1.3", x.airTime(0, 2), 108);
            due.is("n = 5, 18", x.airTime(0, 16), 118);
            due.is("n = 6, 21.6", x.airTime(0, 17), 122);
            due.is("n = 131076, 471873.6", x.airTime(1, 65535), 471974);
        });
        s.said("The air time of a frame of s bytes is");
        s.holds("The nominal air time of a rate is that of a frame of 1200 bytes", due -> {
            RetryChains x = Due.network(1, 1, 376, 2, 370);
            due.is("336 and 338, but 336 and 334 at 1199 bytes", x.role(0, 3), 1);
            x = Due.network(1, 2, 382, 1, 389);
            due.is("327 and 328, but 331 and 328 at 1201 bytes", x.role(0, 3), 1);
        });
    }

    /** At 1200 bytes the tries of the rate (1, 540) take 327, 399, 543, 831, 1407, 2559 and 4863. */
    private static final int[] TOGETHER = {0, 327, 726, 1269, 2100, 3507, 6066, 10929};

    private static void tries(Sentences s) {
        s.holds("If a frame is tried several times in succession at one rate, try j (from 0) takes its air time plus the "
                + "backoff 9 * min(1023, 16 * 2^j - 1) / 2", due -> {
            RetryChains x = Due.network(1, 1, 540);
            x.setBudget(100000);
            for (int made = 1; made <= 7; made++) {
                x.lay(0, 1200);
                due.is("report(0, " + made + ", true)", x.report(0, made, true), TOGETHER[made]);
            }
        });
        s.holds("Each entry of a chain begins with try 0 again, also if it has the same rate as the entry before it", due -> {
            RetryChains x = Due.network(1, 1, 540);
            x.setBudget(100000);
            x.lay(0, 1200);
            due.is("expectedTime(0)", x.expectedTime(0), 4 * 10929);
            due.is("report(0, 8, true)", x.report(0, 8, true), 10929 + 327);
            x.lay(0, 1200);
            due.is("report(0, 16, true)", x.report(0, 16, true), 2 * 10929 + 726);
            x.lay(0, 1200);
            due.is("report(0, 28, false)", x.report(0, 28, false), 4 * 10929);
        });
        s.holds("The number of tries of a rate for a frame is the greatest n from 1 to 7 for which the tries 0 to n - 1 "
                + "together take at most the budget", due -> {
            for (int n = 1; n <= 7; n++) {
                due.is("a budget of just " + n + " tries", triesWithin(TOGETHER[n], 1200), n);
                due.is("one microsecond less", triesWithin(TOGETHER[n] - 1, 1200), Math.max(1, n - 1));
            }
            due.is("never more than 7", triesWithin(100000, 1), 7);
            // a frame of 1201 bytes takes as long, one of 1216 bytes takes 264
            due.is("the tries for the frame", triesWithin(TOGETHER[2], 1201), 2);
            due.is("the tries for another frame", triesWithin(TOGETHER[2], 1216), 1);
        });
        s.holds("it is 1 if even try 0 takes longer", due -> {
            due.is("327 > 326", triesWithin(326, 1200), 1);
            due.is("327 > 100", triesWithin(100, 1200), 1);
            RetryChains x = Due.network(1, 0, 10);
            x.setBudget(100);
            x.lay(0, 4000);
            due.is("32319 > 100", x.entryTries(0, 3), 1);
            due.is("report(0, 1, true)", x.report(0, 1, true), 32319);
        });
    }

    private static int triesWithin(int budget, int size) {
        RetryChains x = Due.network(1, 1, 540);
        x.setBudget(budget);
        x.lay(0, size);
        return x.entryTries(0, 0);
    }
}
