/** Promises 22 to 32. */
public final class EstimatesTest {
    private static final int BAD = Due.BAD, OVERFLOW = Due.OVERFLOW, NONE = Due.NONE;
    private static final int[] ALL = {1};
    private static final int[] HALF = {2};
    private static final int[] THIRD = {3};
    /** 10 tries, 1 success: 6553, just below what has a value. */
    private static final int[] TENTH = {0, 0, 2};
    /** 20 tries, 19 successes: 62259, just what is sure. */
    private static final int[] SURE = {1, 1, 1, 1, 1, 1, 1, 1, 1, 1, 1, 1, 1, 1, 1, 1, 1, 1, 2};
    private static final Due due = new Due("EstimatesTest");

    public static void main(String[] args) {
        wrongArguments();
        estimatesAndCounts();
        airTime();
        throughput();
        rolesByValue();
        secondAndSlowest();
        nominalFrame();
        surest();
        refusal();
        rateOfMode();
        bestOfMode();
        mostUsed();
        bestChain();
        due.end();
    }

    private static void wrongArguments() {
        RetryChains x = Due.network(2, 1, 540, 1, 240, 1, 60);
        int[][] wrong = {{-1, 0}, {2, 0}, {0, -1}, {0, 3}, {Integer.MIN_VALUE, 0}, {0, Integer.MAX_VALUE}};
        for (int[] pair : wrong) {
            due.promise("22");
            due.is("estimate", x.estimate(pair[0], pair[1]), BAD);
            due.promise("23");
            due.is("triesOf", x.triesOf(pair[0], pair[1]), BAD);
            due.promise("24");
            due.is("successesOf", x.successesOf(pair[0], pair[1]), BAD);
            due.promise("26");
            due.is("throughput", x.throughput(pair[0], pair[1], 100), BAD);
        }
        due.promise("22");
        due.is("estimate(1, 2)", x.estimate(1, 2), NONE);
    }

    private static void estimatesAndCounts() {
        RetryChains x = Due.network(2, 1, 540, 1, 240);
        Due.teach(x, 1, 1, 4, 0, 1);
        due.promise("22");
        due.is("estimate(1, 1)", x.estimate(1, 1), 14563);
        due.is("estimate(1, 0)", x.estimate(1, 0), NONE);
        due.is("estimate(0, 1)", x.estimate(0, 1), NONE);
        Due.teach(x, 0, 0, 0);
        due.is("estimate(0, 0)", x.estimate(0, 0), 0);
        Due.tries(x, 1, 1, 2);
        due.promise("23");
        due.is("triesOf(1, 1)", x.triesOf(1, 1), 11);
        due.is("triesOf(0, 0)", x.triesOf(0, 0), 4);
        due.is("triesOf(0, 1)", x.triesOf(0, 1), 0);
        due.promise("24");
        due.is("successesOf(1, 1)", x.successesOf(1, 1), 3);
        due.is("successesOf(0, 0)", x.successesOf(0, 0), 0);
    }

    private static void airTime() {
        due.promise("25");
        RetryChains x = Due.network(0, 0, 10, 0, 110, 1, 15, 2, 15, 1, 10000, 2, 10000, 0, 10000);
        int[][] times = {
            {0, 1, 260}, {0, 1200, 9852}, {0, 65535, 524532},
            {1, 1, 253}, {1, 11, 260}, {1, 12, 261}, {1, 1200, 1125},
            {2, 1, 100}, {2, 2, 108}, {3, 1, 118}, {3, 2, 126},
            {4, 65535, 608}, {5, 65535, 576}, {4, 1, 84}, {5, 1, 104}, {6, 1, 253}, {6, 65535, 777},
        };
        for (int[] row : times) {
            due.is("airTime(" + row[0] + ", " + row[1] + ")", x.airTime(row[0], row[1]), row[2]);
        }
        due.is("airTime(0, 0)", x.airTime(0, 0), BAD);
        due.is("airTime(0, 65536)", x.airTime(0, 65536), BAD);
        due.is("airTime(-1, 1)", x.airTime(-1, 1), BAD);
        due.is("airTime(7, 1)", x.airTime(7, 1), BAD);
    }

    private static void throughput() {
        due.promise("26");
        RetryChains x = Due.network(1, 1, 540, 0, 10);
        Due.teach(x, 0, 0, 2);
        due.is("throughput(0, 0, 1200)", x.throughput(0, 0, 1200), 32768 * 9600 / 260);
        due.is("throughput(0, 0, 0)", x.throughput(0, 0, 0), BAD);
        due.is("throughput(0, 0, 65536)", x.throughput(0, 0, 65536), BAD);
        due.is("throughput(0, 1, 65535): NONE goes first", x.throughput(0, 1, 65535), NONE);
        // 32768 * 8 * 8192 = 2147483648
        due.is("throughput(0, 0, 8192)", x.throughput(0, 0, 8192), OVERFLOW);
        due.is("throughput(0, 0, 8191)", x.throughput(0, 0, 8191), 2147221504 / x.airTime(0, 8191));
        due.is("throughput(0, 0, 65535)", x.throughput(0, 0, 65535), OVERFLOW);
        Due.teach(x, 0, 1, 0);
        due.is("throughput(0, 1, 65535)", x.throughput(0, 1, 65535), 0);
    }

    private static void rolesAre(RetryChains x, int first, int second, int surest, int slowest) {
        due.is("role(0, 0)", x.role(0, 0), first);
        due.is("role(0, 1)", x.role(0, 1), second);
        due.is("role(0, 2)", x.role(0, 2), surest);
        due.is("role(0, 3)", x.role(0, 3), slowest);
    }

    private static void rolesByValue() {
        due.promise("27");
        RetryChains x = Due.network(1);
        due.is("role(1, 0)", x.role(1, 0), BAD);
        due.is("role(-1, 0)", x.role(-1, 0), BAD);
        due.is("role(0, -1)", x.role(0, -1), BAD);
        due.is("role(0, 4)", x.role(0, 4), BAD);
        rolesAre(x, NONE, NONE, NONE, NONE);
        x = Due.network(1, 1, 240, 1, 240, 1, 60, 1, 540);
        rolesAre(x, 0, 1, 0, 2);
        // nominal 484, 484, 1684, 260: a smaller estimate can have the greater value
        Due.teach(x, 0, 2, ALL);
        rolesAre(x, 2, 0, 2, 2);
        Due.teach(x, 0, 3, 4, 0);
        rolesAre(x, 2, 3, 2, 2);
        Due.teach(x, 0, 1, HALF);
        rolesAre(x, 1, 2, 2, 2);
        // of equal values the greater estimate, of equal estimates the smaller number
        x = Due.network(1, 1, 240, 1, 240, 1, 240);
        Due.teach(x, 0, 0, SURE);
        Due.teach(x, 0, 1, ALL);
        Due.teach(x, 0, 2, ALL);
        rolesAre(x, 1, 2, 1, 0);
        // an estimate of 5957 has no value, but is greater than none
        x = Due.network(1, 1, 540, 1, 240, 1, 60);
        Due.teach(x, 0, 2, 0, 0, 3);
        rolesAre(x, 2, 0, 2, 2);
        // what is forbidden has no role, and roles stay between updates
        x.allow(0, 2, false);
        rolesAre(x, 0, 1, 0, 1);
        x.lay(0, 100);
        x.report(0, 4, true);
        rolesAre(x, 0, 1, 0, 1);
    }

    private static void secondAndSlowest() {
        RetryChains x = Due.network(1, 1, 60, 0, 10, 1, 540, 0, 10);
        rolesAre(x, 0, 1, 0, 1);
        Due.teach(x, 0, 2, ALL);
        Due.teach(x, 0, 3, THIRD);
        rolesAre(x, 2, 3, 2, 1);
        x.allow(0, 1, false);
        rolesAre(x, 2, 3, 2, 3);
        x.allow(0, 3, false);
        rolesAre(x, 2, 0, 2, 0);
        x.allow(0, 2, false);
        rolesAre(x, 0, 0, 0, 0);
        // slowest goes by the nominal air time, not by the speed
        x = Due.network(1, 1, 120, 2, 110, 0, 120);
        due.is("884, 885, 1052", x.role(0, 3), 2);
        x = Due.network(1, 1, 120, 2, 110);
        due.is("884, 890", x.role(0, 3), x.airTime(1, 1200) > x.airTime(0, 1200) ? 1 : 0);
    }

    /** Sizes and bits a little off would turn these orders round. */
    private static void nominalFrame() {
        RetryChains x = Due.network(1, 1, 376, 2, 370);
        due.is("336 and 338 at 1200 bytes, 336 and 334 at 1199", x.role(0, 3), 1);
        x = Due.network(1, 2, 382, 1, 389);
        due.is("327 and 328 at 1200 bytes, 331 and 328 at 1201", x.role(0, 3), 1);
        x = Due.network(1, 1, 560, 1, 1203);
        Due.teach(x, 0, 0, 1, 1, 1, 1, 2, 2, 2);
        Due.teach(x, 0, 1, 2, 2, 2, 3);
        due.is("45875 * 9600 / 252 < 29127 * 9600 / 160", x.role(0, 0), 1);
        x = Due.network(1, 1, 482, 0, 1055);
        Due.teach(x, 0, 0, 1, 2, 2, 2);
        Due.teach(x, 0, 1, 1, 1, 1, 1, 2, 2, 2);
        due.is("37449 * 9600 / 280 = 45875 * 9600 / 343", x.role(0, 0), 1);
    }

    private static void surest() {
        RetryChains x = Due.network(1, 1, 540, 1, 60, 1, 240);
        Due.teach(x, 0, 1, ALL);
        Due.teach(x, 0, 0, SURE);
        due.is("62259 is sure", x.estimate(0, 0), 62259);
        rolesAre(x, 0, 1, 0, 1);
        x = Due.network(1, 1, 540, 1, 60, 1, 240);
        x.setWeight(60);
        Due.teach(x, 0, 1, ALL);
        Due.teach(x, 0, 0, ALL);
        Due.teach(x, 0, 0, 1, 1, 1, 1, 1, 1, 1, 1, 1, 1, 2);
        due.is("62258 is not sure", x.estimate(0, 0), 62258);
        rolesAre(x, 0, 1, 1, 1);
        // nothing is sure: the greatest estimate, then the greatest value, then the smallest number
        x = Due.network(1, 1, 60, 1, 240, 1, 240);
        Due.teach(x, 0, 2, THIRD);
        Due.teach(x, 0, 0, HALF);
        rolesAre(x, 2, 0, 0, 0);
        Due.teach(x, 0, 1, HALF);
        rolesAre(x, 1, 2, 1, 0);
        x = Due.network(1, 1, 60, 1, 240, 1, 240);
        Due.teach(x, 0, 2, HALF);
        Due.teach(x, 0, 1, HALF);
        rolesAre(x, 1, 2, 1, 0);
    }

    private static void refusal() {
        due.promise("28");
        RetryChains x = Due.network(2, 1, 540, 1, 240);
        due.is("refusal(-1, 0)", x.refusal(-1, 0), BAD);
        due.is("refusal(2, 0)", x.refusal(2, 0), BAD);
        due.is("refusal(0, -1)", x.refusal(0, -1), BAD);
        due.is("refusal(0, 3)", x.refusal(0, 3), BAD);
        for (int depth = 0; depth < 3; depth++) {
            due.is("refusal(1, " + depth + "): no chain", x.refusal(1, depth), NONE);
        }
        x.setShare(50);
        x.lay(0, 1);
        due.is("refusal(0, 0)", x.refusal(0, 0), 1);
        due.is("refusal(0, 1)", x.refusal(0, 1), NONE);
        due.is("refusal(0, 2)", x.refusal(0, 2), NONE);
        due.is("refusal(1, 0)", x.refusal(1, 0), NONE);
        x.lay(0, 1);
        due.is("refusal(0, 0)", x.refusal(0, 0), 2);
        due.is("refusal(0, 1)", x.refusal(0, 1), 12);
        due.is("refusal(0, 2)", x.refusal(0, 2), 21);
        x.allow(0, 0, false);
        due.is("it stays until the next chain", x.refusal(0, 2), 21);
        x.simulate(0, 1, 1, 1);
        due.is("the draw 37642, forbidden", x.refusal(0, 1), 11);
        due.is("refusal(0, 2)", x.refusal(0, 2), NONE);
        Due.tries(x, 0, 0, 0, 0, 0);
        x.lay(0, 1);
        due.is("a fallback chain", x.refusal(0, 0), NONE);
    }

    private static void rateOfMode() {
        due.promise("29");
        RetryChains x = Due.network(0, 1, 240, 1, 60, 0, 50, 1, 240, 1, 100, 1, 60);
        int[] order = {1, 5, 4, 0, 3, NONE};
        for (int k = 0; k < order.length; k++) {
            due.is("rateOfMode(1, " + k + ")", x.rateOfMode(1, k), order[k]);
        }
        due.is("rateOfMode(0, 0)", x.rateOfMode(0, 0), 2);
        due.is("rateOfMode(0, 1)", x.rateOfMode(0, 1), NONE);
        due.is("rateOfMode(2, 0)", x.rateOfMode(2, 0), NONE);
        due.is("rateOfMode(2, MAX)", x.rateOfMode(2, Integer.MAX_VALUE), NONE);
        due.is("rateOfMode(-1, 0)", x.rateOfMode(-1, 0), BAD);
        due.is("rateOfMode(3, 0)", x.rateOfMode(3, 0), BAD);
        due.is("rateOfMode(0, -1)", x.rateOfMode(0, -1), BAD);
    }

    private static void bestOfMode() {
        due.promise("30");
        RetryChains x = Due.network(1, 1, 240, 1, 60, 0, 50, 1, 240);
        due.is("bestOfMode(-1, 0)", x.bestOfMode(-1, 0), BAD);
        due.is("bestOfMode(1, 0)", x.bestOfMode(1, 0), BAD);
        due.is("bestOfMode(0, -1)", x.bestOfMode(0, -1), BAD);
        due.is("bestOfMode(0, 3)", x.bestOfMode(0, 3), BAD);
        due.is("no rate of the mode", x.bestOfMode(0, 2), NONE);
        due.is("no value: the slowest", x.bestOfMode(0, 1), 1);
        due.is("bestOfMode(0, 0)", x.bestOfMode(0, 0), 2);
        Due.teach(x, 0, 3, SURE);
        due.is("bestOfMode(0, 1)", x.bestOfMode(0, 1), 3);
        Due.teach(x, 0, 0, ALL);
        due.is("the same value: the smaller number", x.bestOfMode(0, 1), 0);
        x.allow(0, 0, false);
        due.is("not allowed", x.bestOfMode(0, 1), 3);
        x.allow(0, 2, false);
        due.is("none is allowed", x.bestOfMode(0, 0), NONE);
        edgesOfValue();
    }

    private static void edgesOfValue() {
        RetryChains x = Due.network(1, 1, 60, 1, 540);
        Due.teach(x, 0, 1, TENTH);
        due.is("estimate(0, 1)", x.estimate(0, 1), 6553);
        due.is("6553 has no value", x.bestOfMode(0, 1), 0);
        x.setWeight(1);
        Due.teach(x, 0, 1, 0, 0, 3, 0, 0, 4, 0, 0, 4, 4);
        due.is("estimate(0, 1)", x.estimate(0, 1), 6554);
        due.is("6554 has a value", x.bestOfMode(0, 1), 1);
        x = Due.network(1, 1, 240, 1, 240);
        Due.teach(x, 0, 0, 1, 1, 1, 1, 1, 1, 1, 1, 2);
        Due.teach(x, 0, 1, ALL);
        due.is("estimate(0, 0)", x.estimate(0, 0), 58982);
        due.is("58982 and 65536 have the same value", x.bestOfMode(0, 1), 0);
        x = Due.network(1, 1, 240, 1, 240);
        x.setWeight(30);
        Due.teach(x, 0, 0, 1, 1, 1, 1, 1, 2);
        Due.teach(x, 0, 0, ALL);
        Due.teach(x, 0, 1, ALL);
        due.is("estimate(0, 0)", x.estimate(0, 0), 58981);
        due.is("58981 has less value", x.bestOfMode(0, 1), 1);
    }

    private static void mostUsed() {
        due.promise("31");
        RetryChains x = Due.network(2, 1, 240, 1, 60, 1, 540);
        due.is("mostUsed(-1)", x.mostUsed(-1), BAD);
        due.is("mostUsed(2)", x.mostUsed(2), BAD);
        due.is("no tries", x.mostUsed(0), NONE);
        Due.tries(x, 0, 0, 1);
        due.is("one try", x.mostUsed(0), 0);
        Due.tries(x, 0, 2, 3);
        due.is("mostUsed(0)", x.mostUsed(0), 2);
        due.is("mostUsed(1)", x.mostUsed(1), NONE);
        Due.tries(x, 0, 1, 3);
        due.is("the smaller number", x.mostUsed(0), 1);
        Due.teach(x, 0, 2, 1);
        x.allow(0, 2, false);
        due.is("also if it is forbidden", x.mostUsed(0), 2);
    }

    private static void chainIs(RetryChains x, int size, int... rates) {
        for (int entry = 0; entry < 4; entry++) {
            due.is("bestChain(0, " + size + ", " + entry + ")", x.bestChain(0, size, entry), rates[entry]);
        }
    }

    private static void bestChain() {
        due.promise("32");
        RetryChains x = Due.network(1, 1, 60, 1, 540);
        due.is("bestChain(-1, 1, 0)", x.bestChain(-1, 1, 0), BAD);
        due.is("bestChain(1, 1, 0)", x.bestChain(1, 1, 0), BAD);
        due.is("bestChain(0, 0, 0)", x.bestChain(0, 0, 0), BAD);
        due.is("bestChain(0, 4001, 0)", x.bestChain(0, 4001, 0), BAD);
        due.is("bestChain(0, 1, -1)", x.bestChain(0, 1, -1), BAD);
        due.is("bestChain(0, 1, 4)", x.bestChain(0, 1, 4), BAD);
        chainIs(x, 1200, 0, 0, 0, 0);
        x.allow(0, 0, false);
        chainIs(x, 1200, 1, 1, 1, 1);
        x.allow(0, 0, true);
        // certain after the first try: of several the smallest
        Due.teach(x, 0, 0, ALL);
        chainIs(x, 1200, 0, 0, 0, 0);
        Due.teach(x, 0, 1, ALL);
        chainIs(x, 4000, 1, 0, 0, 0);
        x.allow(0, 1, false);
        x.allow(0, 0, false);
        due.is("no allowed rate", x.bestChain(0, 1200, 0), NONE);
        due.is("BAD goes before NONE", x.bestChain(0, 1200, 4), BAD);
        bestChainOfModel();
    }

    /** The model tries all sequences with numbers of any length. */
    private static void bestChainOfModel() {
        int[] tries = {100, 700, 2000, 9000};
        for (int budget : tries) {
            RetryChains x = new RetryChains();
            Model model = new Model();
            int[][] rates = {{0, 55}, {1, 540}, {1, 120}, {2, 650}};
            for (int[] rate : rates) {
                x.addRate(rate[0], rate[1]);
                model.addRate(rate[0], rate[1]);
            }
            x.addStation();
            model.addStation();
            for (int rate = 0; rate < 4; rate++) {
                x.setQuality(0, rate, 900 - 250 * rate);
                model.setQuality(0, rate, 900 - 250 * rate);
                for (int other = 0; other < 4; other++) {
                    x.allow(0, other, other == rate);
                    model.allow(0, other, other == rate);
                }
                x.simulate(0, 30, 300, 77);
                model.simulate(0, 30, 300, 77);
                x.update(0);
                model.update(0);
            }
            for (int rate = 0; rate < 4; rate++) {
                x.allow(0, rate, true);
                model.allow(0, rate, true);
            }
            x.setBudget(budget);
            model.setBudget(budget);
            for (int entry = 0; entry < 4; entry++) {
                due.is("bestChain(0, 900, " + entry + ")", x.bestChain(0, 900, entry), model.bestChain(0, 900, entry));
            }
        }
    }
}
