import java.util.function.IntUnaryOperator;

/** Compares answers with the due ones, and makes the states that the tests begin from. */
final class Due {
    static final int BAD = -1, STATE = -2, FULL = -3, OVERFLOW = -4, NONE = -9;

    private final String test;
    private String promise = "";
    private int checks;
    private int wrong;

    Due(String test) {
        this.test = test;
    }

    /** Says which promise the following checks are for. */
    void promise(String text) {
        promise = text;
    }

    void is(String call, long got, long due) {
        checks++;
        if (got != due) {
            wrong++;
            System.out.println(test + ", promise " + promise + ": " + call + " answered " + got + ", due is " + due);
        }
    }

    int checks() {
        return checks;
    }

    /** The least and the greatest argument are taken, the next ones outside and the farthest ones are BAD. */
    void range(String call, IntUnaryOperator asked, int least, int greatest) {
        for (int taken : new int[] {least, greatest}) {
            is(call + " with " + taken + " is taken", asked.applyAsInt(taken) == BAD ? 0 : 1, 1);
        }
        is(call + " with " + (least - 1), asked.applyAsInt(least - 1), BAD);
        bad(call, asked, Integer.MIN_VALUE);
        if (greatest < Integer.MAX_VALUE) {
            bad(call, asked, greatest + 1, Integer.MAX_VALUE);
        }
    }

    /** Each of these arguments is BAD. */
    void bad(String call, IntUnaryOperator asked, int... wrong) {
        for (int argument : wrong) {
            is(call + " with " + argument, asked.applyAsInt(argument), BAD);
        }
    }

    /** The answers to the arguments 0, 1, 2 and so on. */
    void row(String call, IntUnaryOperator asked, int... answers) {
        for (int i = 0; i < answers.length; i++) {
            is(call + " with " + i, asked.applyAsInt(i), answers[i]);
        }
    }

    void end() {
        System.out.println(test + ": " + checks + " checks, " + wrong + " wrong");
        if (wrong > 0) {
            System.exit(1);
        }
    }

    /** An object with the given rates (mode, speed, mode, speed, ..) and stations, and long intervals. */
    static RetryChains network(int stations, int... rates) {
        RetryChains x = new RetryChains();
        for (int i = 0; i + 1 < rates.length; i += 2) {
            x.addRate(rates[i], rates[i + 1]);
        }
        x.setInterval(1000000);
        for (int s = 0; s < stations; s++) {
            x.addStation();
        }
        return x;
    }

    /** Allows a station the rates whose bits are set, of those that there are. */
    static void allowOnly(RetryChains x, int station, int bits) {
        for (int rate = 0; x.estimate(station, rate) != BAD; rate++) {
            x.allow(station, rate, (bits >> rate & 1) == 1);
        }
    }

    /**
     * Makes tries at one rate in the present interval: each number is a frame delivered by that try
     * (1 to 4), 0 is a frame that is lost after 4 tries. All rates are allowed then.
     */
    static void tries(RetryChains x, int station, int rate, int... frames) {
        int budget = x.setBudget(100);
        int share = x.setShare(0);
        allowOnly(x, station, 1 << rate);
        for (int tries : frames) {
            int chain = x.lay(station, 100);
            x.report(chain, tries == 0 ? 4 : tries, tries != 0);
        }
        allowOnly(x, station, 255);
        x.setShare(share);
        x.setBudget(budget);
    }

    /** The same, and an update, so that the rate has an estimate. */
    static void teach(RetryChains x, int station, int rate, int... frames) {
        tries(x, station, rate, frames);
        x.update(station);
    }
}
