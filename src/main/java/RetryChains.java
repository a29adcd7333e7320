import java.util.Arrays;

/**
 * A transmission rate controller for a radio access point: estimates, retry chains, sampling,
 * fair air time, a simulated channel, a log, saved states and undo.
 *
 * All that an act can change stands in a Network, so that undo, save and forecast are copies of it.
 * Every Network that an object ever needs is made with the object; a call makes no object.
 */
public final class RetryChains {
    public static final int BAD = -1, STATE = -2, FULL = -3, OVERFLOW = -4, NONE = -9;

    private static final int MAX_INT = 2147483647;
    private static final int NO_DEFICIT = -2147483648;

    private static final int MAX_RATES = 8;
    private static final int MAX_STATIONS = 4;
    private static final int MAX_CHAINS = 6;
    private static final int MAX_QUEUE = 8;
    private static final int MAX_HISTORY = 5;
    private static final int MAX_LOG = 20;
    private static final int MAX_TRIES = 7;
    private static final int SLOTS = 2;
    private static final int ENTRIES = 4;

    private static final int MODES = 3;
    private static final int LONG_MODE = 0;
    private static final int SYMBOL_MODE = 1;
    private static final int MAX_FRAME = 4000;
    private static final int MAX_SIZE = 65535;
    private static final int NOMINAL_SIZE = 1200;
    private static final int NOMINAL_BITS = 9600;

    private static final int CERTAIN = 65536;
    private static final int LEAST_OF_VALUE = 6554;
    private static final int MOST_OF_VALUE = 58982;
    private static final int SURE = 62259;
    private static final int JUMP = 19661;

    private static final int ROLES = 4;
    private static final int FIRST = 0;
    private static final int SECOND = 1;
    private static final int SUREST = 2;
    private static final int SLOWEST = 3;

    private static final int PLAIN = 0;
    private static final int SAMPLING = 1;
    private static final int FALLBACK = 2;

    private static final int DEPTHS = 3;
    private static final int NOT_IN_SHARE = 1;
    private static final int CANDIDATE_REFUSED = 2;
    private static final int IS_FORBIDDEN = 11;
    private static final int HAS_ROLE = 12;
    private static final int IS_SURE = 13;
    private static final int IS_SLOW_AND_TRIED = 14;
    private static final int IS_FIRST = 21;

    private static final int SUDDEN_CHANGE = 1;
    private static final int COLLAPSE = 2;
    private static final int FALLBACK_BEGINS = 3;
    private static final int FALLBACK_ENDS = 4;
    private static final int NEW_FIRST = 5;

    private static final int LOSSES_TO_FALLBACK = 3;
    private static final int QUANTUM = 4000;
    private static final int LEAST_DEFICIT = -1000000;
    private static final int MAX_TURNS = 1000000;
    private static final int MAX_QUALITY = 1000;
    private static final int FIRST_QUALITY = 500;
    private static final int MAX_SIMULATED = 50;
    private static final int LATEST_SIMULATION = 1000000000;

    private final Network now;
    private final Network trial;
    private final Network[] slots;
    private final boolean[] isSaved;
    private final History history;
    private final ChainSearch search;

    public RetryChains() {
        now = new Network();
        trial = new Network();
        slots = new Network[SLOTS];
        for (int slot = 0; slot < SLOTS; slot++) {
            slots[slot] = new Network();
        }
        isSaved = new boolean[SLOTS];
        history = new History();
        search = new ChainSearch();
    }

    // ---- setup

    public int addRate(int mode, int speed) {
        if (!isMode(mode) || speed < 10 || speed > 10000) {
            return BAD;
        }
        if (now.rates.count >= MAX_RATES) {
            return FULL;
        }
        history.keep(now);
        int number = now.rates.append(mode, speed);
        for (int station = 0; station < now.stationCount; station++) {
            now.stations[station].fillRoles(now.rates);
        }
        return number;
    }

    public int addStation() {
        int number = now.stationCount;
        if (number >= MAX_STATIONS) {
            return FULL;
        }
        history.keep(now);
        now.stationCount = number + 1;
        Station added = now.stations[number];
        added.intervalEnd = now.endOfNewInterval();
        added.fillRoles(now.rates);
        return number;
    }

    public int allow(int station, int rate, boolean on) {
        Station chosen = now.stationAt(station);
        Link link = now.linkAt(station, rate);
        if (chosen == null || link == null) {
            return BAD;
        }
        history.keep(now);
        int before = link.isAllowed ? 1 : 0;
        link.isAllowed = on;
        chosen.fillRoles(now.rates);
        return before;
    }

    public int setShare(int share) {
        if (share < 0 || share > 50) {
            return BAD;
        }
        history.keep(now);
        int before = now.share;
        now.share = share;
        return before;
    }

    public int setWeight(int weight) {
        if (weight < 1 || weight > 100) {
            return BAD;
        }
        history.keep(now);
        int before = now.weight;
        now.weight = weight;
        return before;
    }

    public int setInterval(int length) {
        if (length < 1000 || length > 1000000) {
            return BAD;
        }
        history.keep(now);
        int before = now.interval;
        now.interval = length;
        return before;
    }

    public int setBudget(int budget) {
        if (budget < 100 || budget > 100000) {
            return BAD;
        }
        history.keep(now);
        int before = now.budget;
        now.budget = budget;
        return before;
    }

    // ---- sending

    public int lay(int station, int size) {
        Station sender = now.stationAt(station);
        if (sender == null || !isFrame(size)) {
            return BAD;
        }
        if (!sender.hasAllowedRate(now.rates)) {
            return STATE;
        }
        if (now.freeChain() == NONE) {
            return FULL;
        }
        history.keep(now);
        return now.openChain(sender, size);
    }

    public int enqueue(int station, int size) {
        Station sender = now.stationAt(station);
        if (sender == null || !isFrame(size)) {
            return BAD;
        }
        if (sender.queueLength >= MAX_QUEUE) {
            return FULL;
        }
        history.keep(now);
        return sender.appendFrame(size);
    }

    public int dispatch() {
        if (now.freeChain() == NONE) {
            return FULL;
        }
        if (!now.hasReadyStation()) {
            return NONE;
        }
        history.keep(now);
        Station chosen = now.chooseByDeficit();
        return chosen == null ? NONE : now.openChain(chosen, chosen.takeFrame());
    }

    public int report(int chain, int tries, boolean ok) {
        Chain ended = now.chainAt(chain);
        if (ended == null || tries < 1 || tries > ended.allTries()) {
            return BAD;
        }
        if (!ok && tries < ended.allTries()) {
            return BAD;
        }
        int spent = now.timeOfTries(ended, tries);
        if (spent > MAX_INT - now.time) {
            return OVERFLOW;
        }
        history.keep(now);
        now.conclude(ended, tries, ok);
        now.updateEnded();
        return spent;
    }

    public int pass(int length) {
        if (length < 0) {
            return BAD;
        }
        if (length > MAX_INT - now.time) {
            return OVERFLOW;
        }
        history.keep(now);
        now.time += length;
        now.updateEnded();
        return now.time;
    }

    public int update(int station) {
        Station chosen = now.stationAt(station);
        if (chosen == null) {
            return BAD;
        }
        history.keep(now);
        return now.refresh(chosen);
    }

    // ---- open chains

    public int kind(int chain) {
        Chain open = now.chainAt(chain);
        return open == null ? BAD : open.kind;
    }

    public int stationOf(int chain) {
        Chain open = now.chainAt(chain);
        return open == null ? BAD : open.station;
    }

    public int entryRate(int chain, int entry) {
        Chain open = now.chainAt(chain);
        return open == null || !isEntry(entry) ? BAD : open.rates[entry];
    }

    public int entryTries(int chain, int entry) {
        Chain open = now.chainAt(chain);
        return open == null || !isEntry(entry) ? BAD : open.tries[entry];
    }

    public int tag(int chain) {
        Chain open = now.chainAt(chain);
        if (open == null) {
            return BAD;
        }
        int plain = 4 * open.size + open.station;
        if (open.kind == SAMPLING && isEntry(open.sampleEntry)) {
            return 3 * plain + open.rates[open.sampleEntry];
        }
        return open.kind == FALLBACK ? plain + 100000 : plain;
    }

    public int deliveryChance(int chain) {
        Chain open = now.chainAt(chain);
        return open == null ? BAD : CERTAIN - now.reachOfEnd(open);
    }

    public int expectedTime(int chain) {
        Chain open = now.chainAt(chain);
        return open == null ? BAD : (int) (now.weightedTime(open) / CERTAIN);
    }

    // ---- estimates

    public int estimate(int station, int rate) {
        Link link = now.linkAt(station, rate);
        return link == null ? BAD : link.estimate;
    }

    public int triesOf(int station, int rate) {
        Link link = now.linkAt(station, rate);
        return link == null ? BAD : link.allTries;
    }

    public int successesOf(int station, int rate) {
        Link link = now.linkAt(station, rate);
        return link == null ? BAD : link.allSuccesses;
    }

    public int airTime(int rate, int size) {
        if (!now.rates.has(rate) || !isSize(size)) {
            return BAD;
        }
        return now.rates.timeInAir(rate, size);
    }

    public int throughput(int station, int rate, int size) {
        Link link = now.linkAt(station, rate);
        if (link == null || !isSize(size)) {
            return BAD;
        }
        if (!link.isEstimated()) {
            return NONE;
        }
        long product = (long) link.estimate * (8 * size);
        if (product > MAX_INT) {
            return OVERFLOW;
        }
        int air = Math.max(1, now.rates.timeInAir(rate, size));
        return (int) product / air;
    }

    public int role(int station, int role) {
        Station chosen = now.stationAt(station);
        return chosen == null || role < 0 || role >= ROLES ? BAD : chosen.roles[role];
    }

    public int refusal(int station, int depth) {
        Station chosen = now.stationAt(station);
        return chosen == null || depth < 0 || depth >= DEPTHS ? BAD : chosen.refusals[depth];
    }

    public int rateOfMode(int mode, int k) {
        if (!isMode(mode) || k < 0) {
            return BAD;
        }
        return now.rates.inOrderOfSpeed(mode, k);
    }

    public int bestOfMode(int station, int mode) {
        Station chosen = now.stationAt(station);
        if (chosen == null || !isMode(mode)) {
            return BAD;
        }
        return chosen.mostValuableOfMode(now.rates, mode);
    }

    public int mostUsed(int station) {
        Station chosen = now.stationAt(station);
        return chosen == null ? BAD : chosen.mostTried(now.rates);
    }

    public int bestChain(int station, int size, int entry) {
        Station sender = now.stationAt(station);
        if (sender == null || !isFrame(size) || !isEntry(entry)) {
            return BAD;
        }
        search.prepare(now, sender, size);
        if (search.count == 0) {
            return NONE;
        }
        search.explore();
        return search.best[entry];
    }

    // ---- counts of a station

    public int chains(int station) {
        Station chosen = now.stationAt(station);
        return chosen == null ? BAD : chosen.chains;
    }

    public int sampled(int station) {
        Station chosen = now.stationAt(station);
        return chosen == null ? BAD : chosen.sampled;
    }

    public int delivered(int station) {
        Station chosen = now.stationAt(station);
        return chosen == null ? BAD : chosen.delivered;
    }

    public int lost(int station) {
        Station chosen = now.stationAt(station);
        return chosen == null ? BAD : chosen.lost;
    }

    public int queued(int station) {
        Station chosen = now.stationAt(station);
        return chosen == null ? BAD : chosen.queueLength;
    }

    public int deficit(int station) {
        Station chosen = now.stationAt(station);
        return chosen == null ? NO_DEFICIT : chosen.deficit;
    }

    public int inFallback(int station) {
        Station chosen = now.stationAt(station);
        if (chosen == null) {
            return BAD;
        }
        return chosen.inFallback ? 1 : 0;
    }

    public int time() {
        return now.time;
    }

    // ---- the simulated channel

    public int setQuality(int station, int rate, int quality) {
        Link link = now.linkAt(station, rate);
        if (link == null || quality < 0 || quality > MAX_QUALITY) {
            return BAD;
        }
        history.keep(now);
        int before = link.quality;
        link.quality = quality;
        return before;
    }

    public int simulate(int station, int n, int size, int seed) {
        int error = errorOfSimulation(station, n, size);
        if (error != 0) {
            return error;
        }
        history.keep(now);
        return now.sendFrames(station, n, size, seed);
    }

    public int forecast(int station, int n, int size, int seed) {
        int error = errorOfSimulation(station, n, size);
        if (error != 0) {
            return error;
        }
        trial.become(now);
        return trial.sendFrames(station, n, size, seed);
    }

    public int oracle(int station, int size) {
        Station chosen = now.stationAt(station);
        if (chosen == null || !isFrame(size)) {
            return BAD;
        }
        return chosen.bestByChannel(now.rates, size);
    }

    // ---- log, saved states, undo

    public int events() {
        return now.log.total;
    }

    public int eventKind(int k) {
        return now.log.look(EventLog.KIND, k);
    }

    public int eventStation(int k) {
        return now.log.look(EventLog.STATION, k);
    }

    public int eventRate(int k) {
        return now.log.look(EventLog.RATE, k);
    }

    public int eventTime(int k) {
        return now.log.look(EventLog.TIME, k);
    }

    public int save(int slot) {
        if (slot < 0 || slot >= SLOTS) {
            return BAD;
        }
        slots[slot].become(now);
        isSaved[slot] = true;
        return now.time;
    }

    public int restore(int slot) {
        if (slot < 0 || slot >= SLOTS) {
            return BAD;
        }
        if (!isSaved[slot]) {
            return STATE;
        }
        now.become(slots[slot]);
        history.count = 0;
        return now.time;
    }

    public int undo() {
        if (history.count <= 0) {
            return STATE;
        }
        history.takeBack(now);
        return history.count;
    }

    public long digest() {
        long hash = 31L * 17 + time();
        hash = 31 * hash + events();
        for (int station = 0; station < now.stationCount; station++) {
            hash = digestOfStation(hash, station);
        }
        for (int chain = 0; chain < MAX_CHAINS; chain++) {
            hash = 31 * hash + kind(chain);
        }
        return hash;
    }

    private long digestOfStation(long before, int station) {
        long hash = before;
        hash = 31 * hash + chains(station);
        hash = 31 * hash + sampled(station);
        hash = 31 * hash + delivered(station);
        hash = 31 * hash + lost(station);
        hash = 31 * hash + queued(station);
        hash = 31 * hash + deficit(station);
        hash = 31 * hash + inFallback(station);
        for (int role = 0; role < ROLES; role++) {
            hash = 31 * hash + role(station, role);
        }
        for (int rate = 0; rate < now.rates.count; rate++) {
            hash = 31 * hash + estimate(station, rate);
            hash = 31 * hash + triesOf(station, rate);
            hash = 31 * hash + successesOf(station, rate);
        }
        return hash;
    }

    private int errorOfSimulation(int station, int n, int size) {
        Station sender = now.stationAt(station);
        if (sender == null || n < 1 || n > MAX_SIMULATED || !isFrame(size)) {
            return BAD;
        }
        if (!sender.hasAllowedRate(now.rates)) {
            return STATE;
        }
        if (now.freeChain() == NONE) {
            return FULL;
        }
        return now.time > LATEST_SIMULATION ? OVERFLOW : 0;
    }

    private static boolean isMode(int mode) {
        return mode >= 0 && mode < MODES;
    }

    private static boolean isFrame(int size) {
        return size >= 1 && size <= MAX_FRAME;
    }

    private static boolean isSize(int size) {
        return size >= 1 && size <= MAX_SIZE;
    }

    private static boolean isEntry(int entry) {
        return entry >= 0 && entry < ENTRIES;
    }

    /** The generator of the draw states and of the simulated channel; it overflows on purpose. */
    private static int nextDraw(int draw) {
        return 1103515245 * draw + 12345;
    }

    /** The rates that were added, and what follows from their modes and speeds alone. */
    private static final class RateTable {
        int count;
        final int[] modes = new int[MAX_RATES];
        final int[] speeds = new int[MAX_RATES];
        /** Kept, since every comparison of rates asks for it. */
        final int[] nominals = new int[MAX_RATES];

        void become(RateTable other) {
            count = other.count;
            System.arraycopy(other.modes, 0, modes, 0, MAX_RATES);
            System.arraycopy(other.speeds, 0, speeds, 0, MAX_RATES);
            System.arraycopy(other.nominals, 0, nominals, 0, MAX_RATES);
        }

        boolean has(int rate) {
            return rate >= 0 && rate < count && rate < MAX_RATES;
        }

        int append(int mode, int speed) {
            int number = count;
            if (number < 0 || number >= MAX_RATES) {
                return FULL;
            }
            count = number + 1;
            modes[number] = mode;
            speeds[number] = speed;
            nominals[number] = timeInAir(number, NOMINAL_SIZE);
            return number;
        }

        int timeInAir(int rate, int size) {
            if (!has(rate)) {
                return 0;
            }
            int speed = Math.max(1, speeds[rate]);
            if (modes[rate] == LONG_MODE) {
                return 252 + dividedUp(80 * size, speed);
            }
            int symbols = dividedUp(220 + 80 * size, 4 * speed);
            return modes[rate] == SYMBOL_MODE ? 80 + 4 * symbols : 100 + dividedUp(18 * symbols, 5);
        }

        int nominalOf(int rate) {
            return has(rate) ? nominals[rate] : 0;
        }

        int timeOfTry(int rate, int size, int attempt) {
            return timeInAir(rate, size) + 9 * Math.min(1023, (16 << attempt) - 1) / 2;
        }

        int triesWithin(int rate, int size, int budget) {
            int tries = 1;
            int spent = timeOfTry(rate, size, 0);
            while (tries < MAX_TRIES) {
                spent += timeOfTry(rate, size, tries);
                if (spent > budget) {
                    return tries;
                }
                tries++;
            }
            return tries;
        }

        int inOrderOfSpeed(int mode, int position) {
            for (int rate = 0; rate < count; rate++) {
                if (modes[rate] == mode && placeInMode(rate) == position) {
                    return rate;
                }
            }
            return NONE;
        }

        private int placeInMode(int rate) {
            int place = 0;
            for (int other = 0; other < count; other++) {
                boolean isBefore = speeds[other] < speeds[rate]
                        || speeds[other] == speeds[rate] && other < rate;
                if (modes[other] == modes[rate] && isBefore) {
                    place++;
                }
            }
            return place;
        }

        private static int dividedUp(int number, int divisor) {
            return divisor < 1 ? 0 : (number + divisor - 1) / divisor;
        }
    }

    /** What a station knows of one rate. */
    private static final class Link {
        boolean isAllowed = true;
        int estimate = NONE;
        int tendency;
        int tries;
        int successes;
        int allTries;
        int allSuccesses;
        int quality = FIRST_QUALITY;

        void become(Link other) {
            isAllowed = other.isAllowed;
            estimate = other.estimate;
            tendency = other.tendency;
            tries = other.tries;
            successes = other.successes;
            allTries = other.allTries;
            allSuccesses = other.allSuccesses;
            quality = other.quality;
        }

        boolean isEstimated() {
            return estimate != NONE;
        }

        int estimateOrZero() {
            return estimate == NONE ? 0 : estimate;
        }

        int value(int nominal) {
            if (estimate < LEAST_OF_VALUE || nominal < 1) {
                return 0;
            }
            int counted = estimate > MOST_OF_VALUE ? MOST_OF_VALUE : estimate;
            return counted * NOMINAL_BITS / nominal;
        }

        int sample() {
            return tries < 1 ? 0 : (int) ((long) successes * CERTAIN / tries);
        }

        int swing(int sample) {
            if (sample - estimate >= JUMP) {
                return 1;
            }
            return sample - estimate <= -JUMP ? -1 : 0;
        }

        void count(int made, boolean lastSucceeded) {
            tries += made;
            allTries += made;
            if (lastSucceeded) {
                successes++;
                allSuccesses++;
            }
        }

        void startFrom(int sample) {
            estimate = sample;
            tendency = 0;
        }

        /** Learns from the tries of the interval, and tells whether they were a sudden change. */
        boolean learn(int weight) {
            int sample = sample();
            if (!isEstimated()) {
                startFrom(sample);
                return false;
            }
            int swing = swing(sample);
            if (swing != 0 && swing == tendency) {
                startFrom(sample);
                return true;
            }
            estimate = (estimate * (100 - weight) + sample * weight) / 100;
            tendency = swing;
            return false;
        }
    }

    private static final class Station {
        final int number;
        final Link[] links = new Link[MAX_RATES];
        final int[] roles = new int[ROLES];
        /** By depth: the reason, its cause, the cause of that; NONE where there is none. */
        final int[] refusals = new int[DEPTHS];
        final int[] queue = new int[MAX_QUEUE];
        int queueLength;
        int chains;
        int sampled;
        int delivered;
        int lost;
        int losses;
        boolean inFallback;
        int deficit;
        /** A long: an interval that begins late ends after the last time that there is. */
        long intervalEnd;
        int draw;

        Station(int number) {
            this.number = number;
            draw = 7 * number + 1;
            for (int rate = 0; rate < MAX_RATES; rate++) {
                links[rate] = new Link();
            }
            Arrays.fill(roles, NONE);
            Arrays.fill(refusals, NONE);
        }

        void become(Station other) {
            for (int rate = 0; rate < MAX_RATES; rate++) {
                links[rate].become(other.links[rate]);
            }
            System.arraycopy(other.roles, 0, roles, 0, ROLES);
            System.arraycopy(other.refusals, 0, refusals, 0, DEPTHS);
            System.arraycopy(other.queue, 0, queue, 0, MAX_QUEUE);
            queueLength = other.queueLength;
            chains = other.chains;
            sampled = other.sampled;
            delivered = other.delivered;
            lost = other.lost;
            losses = other.losses;
            inFallback = other.inFallback;
            deficit = other.deficit;
            intervalEnd = other.intervalEnd;
            draw = other.draw;
        }

        boolean hasAllowedRate(RateTable rates) {
            for (int rate = 0; rate < rates.count; rate++) {
                if (links[rate].isAllowed) {
                    return true;
                }
            }
            return false;
        }

        boolean isReady(RateTable rates) {
            return queueLength > 0 && hasAllowedRate(rates);
        }

        int appendFrame(int size) {
            if (queueLength < 0 || queueLength >= MAX_QUEUE) {
                return FULL;
            }
            queue[queueLength] = size;
            queueLength++;
            return queueLength;
        }

        int takeFrame() {
            int size = queue[0];
            System.arraycopy(queue, 1, queue, 0, MAX_QUEUE - 1);
            queueLength = Math.max(0, queueLength - 1);
            return size;
        }

        void fillRoles(RateTable rates) {
            roles[FIRST] = highest(rates, 0, NONE, false);
            int other = highest(rates, 0, roles[FIRST], false);
            roles[SECOND] = other == NONE ? roles[FIRST] : other;
            int sure = highest(rates, SURE, NONE, false);
            roles[SUREST] = sure == NONE ? highest(rates, 0, NONE, true) : sure;
            roles[SLOWEST] = slowestAllowed(rates);
        }

        /** The allowed rate with the greatest value and estimate, or the other way round. */
        private int highest(RateTable rates, int leastEstimate, int except, boolean byEstimate) {
            int best = NONE;
            long bestRank = 0;
            for (int rate = 0; rate < rates.count; rate++) {
                Link link = links[rate];
                int known = link.estimateOrZero();
                if (!link.isAllowed || rate == except || known < leastEstimate) {
                    continue;
                }
                long value = link.value(rates.nominals[rate]);
                long rank = byEstimate ? ((long) known << 32) + value : (value << 32) + known;
                if (best == NONE || rank > bestRank) {
                    best = rate;
                    bestRank = rank;
                }
            }
            return best;
        }

        private int slowestAllowed(RateTable rates) {
            int slowest = NONE;
            int longest = 0;
            for (int rate = 0; rate < rates.count; rate++) {
                if (links[rate].isAllowed && rates.nominals[rate] > longest) {
                    slowest = rate;
                    longest = rates.nominals[rate];
                }
            }
            return slowest;
        }

        int mostValuableOfMode(RateTable rates, int mode) {
            int best = NONE;
            int bestValue = 0;
            for (int position = 0; position < rates.count; position++) {
                int rate = rates.inOrderOfSpeed(mode, position);
                if (!rates.has(rate) || !links[rate].isAllowed) {
                    continue;
                }
                int value = links[rate].value(rates.nominals[rate]);
                if (best == NONE || value > bestValue) {
                    best = rate;
                    bestValue = value;
                }
            }
            return best;
        }

        int mostTried(RateTable rates) {
            int most = NONE;
            int mostTries = 0;
            for (int rate = 0; rate < rates.count; rate++) {
                if (links[rate].allTries > mostTries) {
                    most = rate;
                    mostTries = links[rate].allTries;
                }
            }
            return most;
        }

        /** Compares the ratios of quality to air time crosswise, since a quotient would be rounded. */
        int bestByChannel(RateTable rates, int size) {
            int best = NONE;
            long bestQuality = 0;
            long bestAir = 1;
            for (int rate = 0; rate < rates.count; rate++) {
                long air = rates.timeInAir(rate, size);
                long quality = links[rate].quality;
                if (links[rate].isAllowed && quality * bestAir > bestQuality * air) {
                    best = rate;
                    bestQuality = quality;
                    bestAir = air;
                }
            }
            return best;
        }

        void noteRefusal(int reason, int cause, int causeOfCause) {
            refusals[0] = reason;
            refusals[1] = cause;
            refusals[2] = causeOfCause;
        }

        int ratesTried(RateTable rates) {
            int tried = 0;
            for (int rate = 0; rate < rates.count; rate++) {
                if (links[rate].tries > 0) {
                    tried++;
                }
            }
            return tried;
        }

        boolean isCollapse(RateTable rates) {
            int fallen = 0;
            for (int rate = 0; rate < rates.count; rate++) {
                Link link = links[rate];
                if (link.tries > 0 && link.isEstimated()) {
                    if (link.swing(link.sample()) != -1) {
                        return false;
                    }
                    fallen++;
                }
            }
            return fallen >= 2;
        }

        void collapse(RateTable rates) {
            for (int rate = 0; rate < rates.count; rate++) {
                Link link = links[rate];
                if (link.tries > 0) {
                    link.startFrom(link.sample());
                } else if (link.isEstimated()) {
                    link.estimate /= 2;
                }
            }
        }

        void beginInterval(RateTable rates, long end) {
            for (int rate = 0; rate < rates.count; rate++) {
                links[rate].tries = 0;
                links[rate].successes = 0;
            }
            losses = 0;
            intervalEnd = end;
        }
    }

    private static final class Chain {
        boolean isOpen;
        int station;
        int size;
        int kind;
        /** The entry of the candidate, or NONE. */
        int sampleEntry = NONE;
        final int[] rates = new int[ENTRIES];
        final int[] tries = new int[ENTRIES];

        void become(Chain other) {
            isOpen = other.isOpen;
            station = other.station;
            size = other.size;
            kind = other.kind;
            sampleEntry = other.sampleEntry;
            System.arraycopy(other.rates, 0, rates, 0, ENTRIES);
            System.arraycopy(other.tries, 0, tries, 0, ENTRIES);
        }

        void setRates(int rate0, int rate1, int rate2, int rate3) {
            rates[0] = rate0;
            rates[1] = rate1;
            rates[2] = rate2;
            rates[3] = rate3;
        }

        int allTries() {
            int sum = 0;
            for (int entry = 0; entry < ENTRIES; entry++) {
                sum += tries[entry];
            }
            return sum;
        }

        /** The rate of one of the tries, which are counted from 0 over all entries. */
        int rateOfTry(int attempt) {
            int left = attempt;
            for (int entry = 0; entry < ENTRIES; entry++) {
                if (left < tries[entry]) {
                    return rates[entry];
                }
                left -= tries[entry];
            }
            return NONE;
        }
    }

    /** The latest events, in rows that are written round and round. */
    private static final class EventLog {
        static final int KIND = 0;
        static final int STATION = 1;
        static final int RATE = 2;
        static final int TIME = 3;
        static final int FIELDS = 4;

        int total;
        final int[][] rows = new int[FIELDS][MAX_LOG];

        void become(EventLog other) {
            total = other.total;
            for (int field = 0; field < FIELDS; field++) {
                System.arraycopy(other.rows[field], 0, rows[field], 0, MAX_LOG);
            }
        }

        void note(int event, int station, int rate, int time) {
            int place = Math.floorMod(total, MAX_LOG);
            rows[KIND][place] = event;
            rows[STATION][place] = station;
            rows[RATE][place] = rate;
            rows[TIME][place] = time;
            total++;
        }

        int look(int field, int back) {
            if (back < 0 || field < 0 || field >= FIELDS) {
                return BAD;
            }
            if (back >= Math.min(total, MAX_LOG)) {
                return NONE;
            }
            return rows[field][Math.floorMod(total - 1 - back, MAX_LOG)];
        }
    }

    /** Everything that undo, save and restore bring back. */
    private static final class Network {
        final RateTable rates = new RateTable();
        final Station[] stations = new Station[MAX_STATIONS];
        final Chain[] open = new Chain[MAX_CHAINS];
        final EventLog log = new EventLog();
        int stationCount;
        int time;
        int share = 10;
        int weight = 25;
        int interval = 100000;
        int budget = 6000;
        int turn;

        Network() {
            for (int station = 0; station < MAX_STATIONS; station++) {
                stations[station] = new Station(station);
            }
            for (int chain = 0; chain < MAX_CHAINS; chain++) {
                open[chain] = new Chain();
            }
        }

        void become(Network other) {
            rates.become(other.rates);
            for (int station = 0; station < MAX_STATIONS; station++) {
                stations[station].become(other.stations[station]);
            }
            for (int chain = 0; chain < MAX_CHAINS; chain++) {
                open[chain].become(other.open[chain]);
            }
            log.become(other.log);
            stationCount = other.stationCount;
            time = other.time;
            share = other.share;
            weight = other.weight;
            interval = other.interval;
            budget = other.budget;
            turn = other.turn;
        }

        Station stationAt(int number) {
            boolean exists = number >= 0 && number < stationCount && number < MAX_STATIONS;
            return exists ? stations[number] : null;
        }

        Link linkAt(int station, int rate) {
            Station owner = stationAt(station);
            return owner == null || !rates.has(rate) ? null : owner.links[rate];
        }

        Chain chainAt(int number) {
            boolean exists = number >= 0 && number < MAX_CHAINS;
            return exists && open[number].isOpen ? open[number] : null;
        }

        int freeChain() {
            for (int chain = 0; chain < MAX_CHAINS; chain++) {
                if (!open[chain].isOpen) {
                    return chain;
                }
            }
            return NONE;
        }

        long endOfNewInterval() {
            return (long) time + interval;
        }

        // ---- laying a chain

        int openChain(Station sender, int size) {
            int number = freeChain();
            if (number < 0 || number >= MAX_CHAINS) {
                return FULL;
            }
            Chain chain = open[number];
            chain.isOpen = true;
            chain.station = sender.number;
            chain.size = size;
            sender.chains++;
            sender.noteRefusal(NONE, NONE, NONE);
            chooseRates(chain, sender, sender.inFallback ? NONE : drawCandidate(sender));
            for (int entry = 0; entry < ENTRIES; entry++) {
                boolean isSample = entry == chain.sampleEntry;
                chain.tries[entry] = isSample ? 1 : rates.triesWithin(chain.rates[entry], size, budget);
            }
            return number;
        }

        private void chooseRates(Chain chain, Station sender, int candidate) {
            int first = sender.roles[FIRST];
            int second = sender.roles[SECOND];
            int surest = sender.roles[SUREST];
            int slowest = sender.roles[SLOWEST];
            chain.sampleEntry = NONE;
            if (sender.inFallback) {
                chain.kind = FALLBACK;
                chain.setRates(surest, slowest, slowest, slowest);
                return;
            }
            if (candidate == NONE) {
                chain.kind = PLAIN;
                chain.setRates(first, second, surest, slowest);
                return;
            }
            sender.sampled++;
            chain.kind = SAMPLING;
            if (rates.nominalOf(candidate) <= rates.nominalOf(first)) {
                chain.sampleEntry = 0;
                chain.setRates(candidate, first, surest, slowest);
            } else {
                chain.sampleEntry = 1;
                chain.setRates(first, candidate, surest, slowest);
            }
        }

        /** The rate to be sampled, or NONE; then the station knows the refusal. */
        private int drawCandidate(Station sender) {
            if ((sender.sampled + 1) * 100 > sender.chains * share) {
                sender.noteRefusal(NOT_IN_SHARE, NONE, NONE);
                return NONE;
            }
            sender.draw = nextDraw(sender.draw);
            int candidate = (sender.draw >>> 16) % Math.max(1, rates.count);
            int cause = causeAgainst(sender, candidate);
            if (cause == NONE) {
                return candidate;
            }
            int causeOfCause = cause == HAS_ROLE ? roleCause(sender, candidate) : NONE;
            sender.noteRefusal(CANDIDATE_REFUSED, cause, causeOfCause);
            return NONE;
        }

        private int causeAgainst(Station sender, int candidate) {
            if (!rates.has(candidate) || !sender.links[candidate].isAllowed) {
                return IS_FORBIDDEN;
            }
            Link link = sender.links[candidate];
            if (roleCause(sender, candidate) != NONE) {
                return HAS_ROLE;
            }
            if (link.estimate >= SURE) {
                return IS_SURE;
            }
            boolean isSlow = rates.nominalOf(candidate) > rates.nominalOf(sender.roles[SUREST]);
            return isSlow && link.tries > 0 ? IS_SLOW_AND_TRIED : NONE;
        }

        /** The document names no cause for the role slowest, so that one is no obstacle. */
        private static int roleCause(Station sender, int candidate) {
            for (int role = FIRST; role <= SUREST; role++) {
                if (sender.roles[role] == candidate) {
                    return IS_FIRST + role;
                }
            }
            return NONE;
        }

        // ---- dividing the air time

        boolean hasReadyStation() {
            for (int station = 0; station < stationCount; station++) {
                if (stations[station].isReady(rates)) {
                    return true;
                }
            }
            return false;
        }

        /** The counter only makes the end visible: a ready station is chosen after some 1000 turns. */
        Station chooseByDeficit() {
            for (int count = 0; count < MAX_TURNS; count++) {
                Station next = stationAt(turn);
                if (next != null && next.isReady(rates)) {
                    if (next.deficit > 0) {
                        return next;
                    }
                    next.deficit += QUANTUM;
                }
                turn = turn + 1 < stationCount ? turn + 1 : 0;
            }
            return null;
        }

        // ---- the end of a chain

        int timeOfTries(Chain chain, int tries) {
            int left = tries;
            int spent = 0;
            for (int entry = 0; entry < ENTRIES; entry++) {
                int made = Math.min(left, chain.tries[entry]);
                for (int attempt = 0; attempt < made; attempt++) {
                    spent += rates.timeOfTry(chain.rates[entry], chain.size, attempt);
                }
                left -= made;
            }
            return spent;
        }

        /** Closes the chain; the stations whose interval has ended then are left to the caller. */
        void conclude(Chain chain, int tries, boolean ok) {
            Station sender = stationAt(chain.station);
            if (sender == null) {
                return;
            }
            chain.isOpen = false;
            countTries(sender, chain, tries, ok);
            int spent = timeOfTries(chain, tries);
            time += spent;
            sender.deficit = Math.max(LEAST_DEFICIT, sender.deficit - spent);
            if (ok) {
                sender.delivered++;
                sender.losses = 0;
                endFallback(sender);
                return;
            }
            sender.lost++;
            sender.losses++;
            if (sender.losses == LOSSES_TO_FALLBACK) {
                beginFallback(sender);
            }
        }

        private void countTries(Station sender, Chain chain, int tries, boolean ok) {
            int left = tries;
            for (int entry = 0; entry < ENTRIES; entry++) {
                int made = Math.min(left, chain.tries[entry]);
                int rate = chain.rates[entry];
                left -= made;
                if (made > 0 && rates.has(rate)) {
                    sender.links[rate].count(made, ok && left == 0);
                }
            }
        }

        private void beginFallback(Station station) {
            if (!station.inFallback) {
                station.inFallback = true;
                log.note(FALLBACK_BEGINS, station.number, NONE, time);
            }
        }

        private void endFallback(Station station) {
            if (station.inFallback) {
                station.inFallback = false;
                log.note(FALLBACK_ENDS, station.number, NONE, time);
            }
        }

        // ---- updates

        void updateEnded() {
            for (int station = 0; station < stationCount; station++) {
                if (stations[station].intervalEnd <= time) {
                    refresh(stations[station]);
                }
            }
        }

        /** Updates a station; answers for how many rates there were tries. */
        int refresh(Station station) {
            int firstBefore = station.roles[FIRST];
            int tried = station.ratesTried(rates);
            if (station.isCollapse(rates)) {
                station.collapse(rates);
                log.note(COLLAPSE, station.number, NONE, time);
                beginFallback(station);
            } else {
                learnAll(station);
                endFallback(station);
            }
            station.beginInterval(rates, endOfNewInterval());
            station.fillRoles(rates);
            if (station.roles[FIRST] != firstBefore) {
                log.note(NEW_FIRST, station.number, station.roles[FIRST], time);
            }
            return tried;
        }

        private void learnAll(Station station) {
            for (int rate = 0; rate < rates.count; rate++) {
                Link link = station.links[rate];
                if (link.tries > 0 && link.learn(weight)) {
                    log.note(SUDDEN_CHANGE, station.number, rate, time);
                }
            }
        }

        // ---- what a chain promises

        /** The probability that all tries of a chain fail. */
        int reachOfEnd(Chain chain) {
            long reach = CERTAIN;
            for (int entry = 0; entry < ENTRIES; entry++) {
                for (int attempt = 0; attempt < chain.tries[entry]; attempt++) {
                    reach = reachAfter(reach, chain, entry);
                }
            }
            return (int) reach;
        }

        /** The expected time of a chain, in units of 1/65536 microseconds. */
        long weightedTime(Chain chain) {
            long reach = CERTAIN;
            long sum = 0;
            for (int entry = 0; entry < ENTRIES; entry++) {
                for (int attempt = 0; attempt < chain.tries[entry]; attempt++) {
                    sum += reach * rates.timeOfTry(chain.rates[entry], chain.size, attempt);
                    reach = reachAfter(reach, chain, entry);
                }
            }
            return sum;
        }

        private long reachAfter(long reach, Chain chain, int entry) {
            Link link = linkAt(chain.station, chain.rates[entry]);
            return link == null ? reach : reach * (CERTAIN - link.estimateOrZero()) / CERTAIN;
        }

        // ---- the simulated channel

        int sendFrames(int station, int n, int size, int seed) {
            int y = seed;
            int deliveries = 0;
            for (int frame = 0; frame < n; frame++) {
                Station sender = stationAt(station);
                Chain chain = sender == null ? null : chainAt(openChain(sender, size));
                if (chain == null) {
                    return deliveries;
                }
                int tries = chain.allTries();
                int made = 0;
                boolean ok = false;
                while (made < tries && !ok) {
                    Link link = linkAt(station, chain.rateOfTry(made));
                    y = nextDraw(y);
                    ok = link != null && (y >>> 16) % MAX_QUALITY < link.quality;
                    made++;
                }
                conclude(chain, made, ok);
                deliveries += ok ? 1 : 0;
                updateEnded();
            }
            return deliveries;
        }
    }

    /** The states before the latest acts; the oldest gives its place to the newest. */
    private static final class History {
        final Network[] states = new Network[MAX_HISTORY];
        int oldest;
        int count;

        History() {
            for (int place = 0; place < MAX_HISTORY; place++) {
                states[place] = new Network();
            }
        }

        void keep(Network state) {
            states[Math.floorMod(oldest + count, MAX_HISTORY)].become(state);
            if (count < MAX_HISTORY) {
                count++;
            } else {
                oldest = Math.floorMod(oldest + 1, MAX_HISTORY);
            }
        }

        void takeBack(Network state) {
            count = Math.max(0, count - 1);
            state.become(states[Math.floorMod(oldest + count, MAX_HISTORY)]);
        }
    }

    /** The search for the best retry chain; its rows are made once and used by every search. */
    private static final class ChainSearch {
        int count;
        final int[] rates = new int[MAX_RATES];
        final int[] misses = new int[MAX_RATES];
        final int[] tries = new int[MAX_RATES];
        final int[][] times = new int[MAX_RATES][MAX_TRIES];
        /** By the number of entries placed: what is left to fail, and the time until there. */
        final long[] reach = new long[ENTRIES + 1];
        final long[] sums = new long[ENTRIES + 1];
        final int[] entries = new int[ENTRIES];
        final int[] best = new int[ENTRIES];
        long bestChance;
        long bestTime;

        void prepare(Network network, Station sender, int size) {
            RateTable table = network.rates;
            count = 0;
            for (int rate = 0; rate < table.count; rate++) {
                if (sender.links[rate].isAllowed) {
                    rates[count] = rate;
                    misses[count] = CERTAIN - sender.links[rate].estimateOrZero();
                    tries[count] = table.triesWithin(rate, size, network.budget);
                    for (int attempt = 0; attempt < MAX_TRIES; attempt++) {
                        times[count][attempt] = table.timeOfTry(rate, size, attempt);
                    }
                    count++;
                }
            }
        }

        /** Goes in lexicographical order, so that of equal chains the smallest is kept. */
        void explore() {
            reach[0] = CERTAIN;
            sums[0] = 0;
            bestChance = -1;
            bestTime = 1;
            for (int a = 0; a < count; a++) {
                place(0, a);
                for (int b = 0; b < count; b++) {
                    place(1, b);
                    for (int c = 0; c < count; c++) {
                        place(2, c);
                        for (int d = 0; d < count; d++) {
                            place(3, d);
                            keepIfBetter();
                        }
                    }
                }
            }
        }

        private void place(int entry, int choice) {
            long left = reach[entry];
            long sum = sums[entry];
            for (int attempt = 0; attempt < tries[choice]; attempt++) {
                sum += left * times[choice][attempt];
                left = left * misses[choice] / CERTAIN;
            }
            reach[entry + 1] = left;
            sums[entry + 1] = sum;
            entries[entry] = rates[choice];
        }

        private void keepIfBetter() {
            long chance = CERTAIN - reach[ENTRIES];
            long time = sums[ENTRIES];
            if (chance * bestTime > bestChance * time) {
                bestChance = chance;
                bestTime = time;
                System.arraycopy(entries, 0, best, 0, ENTRIES);
            }
        }
    }
}
