import java.math.BigInteger;
import java.util.ArrayDeque;
import java.util.ArrayList;
import java.util.Arrays;
import java.util.Comparator;
import java.util.Deque;
import java.util.List;

/**
 * A second, slow reading of the document, written to be compared with RetryChains: lists and big
 * numbers, states copied whole, the sentences of the document in their order.
 */
final class Model {
    static final int BAD = -1, STATE = -2, FULL = -3, OVERFLOW = -4, NONE = -9;

    static final class Rate {
        int mode, speed;

        int air(int s) {
            if (mode == 0) {
                return 252 + up(80L * s, speed);
            }
            int n = up(220 + 80L * s, 4L * speed);
            return mode == 1 ? 80 + 4 * n : 100 + up(18L * n, 5);
        }

        int nominal() {
            return air(1200);
        }

        int attempt(int s, int j) {
            int backoff = 9 * (int) Math.min(1023, 16 * Math.round(Math.pow(2, j)) - 1) / 2;
            return air(s) + backoff;
        }

        int tries(int s, int budget) {
            for (int n = 7; n >= 2; n--) {
                int sum = 0;
                for (int j = 0; j < n; j++) {
                    sum += attempt(s, j);
                }
                if (sum <= budget) {
                    return n;
                }
            }
            return 1;
        }
    }

    static final class Stat {
        boolean allowed = true;
        Integer estimate;
        int tries, hits, allTries, allHits, tendency, quality = 500;

        int known() {
            return estimate == null ? 0 : estimate;
        }
    }

    static final class Sta {
        int no, chains, sampled, delivered, lost, losses, deficit, x;
        boolean fallback;
        long end;
        List<Integer> queue = new ArrayList<>();
        List<Stat> stats = new ArrayList<>();
        int[] roles = {NONE, NONE, NONE, NONE};
        int[] refusal = {NONE, NONE, NONE};
    }

    static final class Laid {
        int station, size, kind, candidate = NONE;
        int[] rate = new int[4], tries = new int[4];
    }

    static final class World {
        int time, share = 10, weight = 25, length = 100000, budget = 6000, turn, events;
        List<Rate> rates = new ArrayList<>();
        List<Sta> stations = new ArrayList<>();
        Laid[] chains = new Laid[6];
        List<int[]> log = new ArrayList<>();
    }

    World w = new World();
    Deque<World> history = new ArrayDeque<>();
    World[] slots = new World[2];

    static int up(long a, long b) {
        return (int) ((a + b - 1) / b);
    }

    static World copy(World a) {
        World b = new World();
        b.time = a.time;
        b.share = a.share;
        b.weight = a.weight;
        b.length = a.length;
        b.budget = a.budget;
        b.turn = a.turn;
        b.events = a.events;
        b.rates.addAll(a.rates);
        for (Sta s : a.stations) {
            b.stations.add(copy(s));
        }
        System.arraycopy(a.chains, 0, b.chains, 0, 6);
        b.log.addAll(a.log);
        return b;
    }

    static Sta copy(Sta a) {
        Sta b = new Sta();
        b.no = a.no;
        b.chains = a.chains;
        b.sampled = a.sampled;
        b.delivered = a.delivered;
        b.lost = a.lost;
        b.losses = a.losses;
        b.deficit = a.deficit;
        b.x = a.x;
        b.fallback = a.fallback;
        b.end = a.end;
        b.queue.addAll(a.queue);
        b.roles = a.roles.clone();
        b.refusal = a.refusal.clone();
        for (Stat s : a.stats) {
            Stat t = new Stat();
            t.allowed = s.allowed;
            t.estimate = s.estimate;
            t.tries = s.tries;
            t.hits = s.hits;
            t.allTries = s.allTries;
            t.allHits = s.allHits;
            t.tendency = s.tendency;
            t.quality = s.quality;
            b.stats.add(t);
        }
        return b;
    }

    void act() {
        history.addLast(copy(w));
        if (history.size() > 5) {
            history.removeFirst();
        }
    }

    boolean noStation(int s) {
        return s < 0 || s >= w.stations.size();
    }

    boolean noRate(int r) {
        return r < 0 || r >= w.rates.size();
    }

    boolean noChain(int c) {
        return c < 0 || c > 5 || w.chains[c] == null;
    }

    static boolean out(int v, int low, int high) {
        return v < low || v > high;
    }

    int value(Sta s, int r) {
        Integer e = s.stats.get(r).estimate;
        if (e == null || e < 6554) {
            return 0;
        }
        return Math.min(e, 58982) * 9600 / w.rates.get(r).nominal();
    }

    List<Integer> allowed(Sta s) {
        List<Integer> found = new ArrayList<>();
        for (int r = 0; r < w.rates.size(); r++) {
            if (s.stats.get(r).allowed) {
                found.add(r);
            }
        }
        return found;
    }

    int top(Sta s, List<Integer> among) {
        return among.stream().min(Comparator.<Integer>comparingInt(r -> -value(s, r))
                .thenComparingInt(r -> -s.stats.get(r).known()).thenComparingInt(r -> r)).orElse(NONE);
    }

    void roles(Sta s) {
        List<Integer> all = allowed(s);
        Arrays.fill(s.roles, NONE);
        if (all.isEmpty()) {
            return;
        }
        int first = top(s, all);
        List<Integer> others = new ArrayList<>(all);
        others.remove((Integer) first);
        List<Integer> sure = new ArrayList<>(all);
        sure.removeIf(r -> s.stats.get(r).known() < 62259);
        s.roles[0] = first;
        s.roles[1] = others.isEmpty() ? first : top(s, others);
        s.roles[2] = !sure.isEmpty() ? top(s, sure)
                : all.stream().min(Comparator.<Integer>comparingInt(r -> -s.stats.get(r).known())
                        .thenComparingInt(r -> -value(s, r)).thenComparingInt(r -> r)).get();
        s.roles[3] = all.stream().min(Comparator.<Integer>comparingInt(r -> -w.rates.get(r).nominal())
                .thenComparingInt(r -> r)).get();
    }

    void event(int kind, int station, int rate) {
        w.events++;
        w.log.add(0, new int[] {kind, station, rate, w.time});
        if (w.log.size() > 20) {
            w.log.remove(20);
        }
    }

    int refresh(Sta s) {
        List<Integer> tried = new ArrayList<>();
        List<Integer> known = new ArrayList<>();
        int n = w.rates.size();
        int[] sample = new int[n];
        int[] t = new int[n];
        for (int r = 0; r < n; r++) {
            Stat a = s.stats.get(r);
            if (a.tries > 0) {
                tried.add(r);
                sample[r] = (int) (a.hits * 65536L / a.tries);
                if (a.estimate != null) {
                    known.add(r);
                    t[r] = sample[r] - a.estimate >= 19661 ? 1 : sample[r] - a.estimate <= -19661 ? -1 : 0;
                }
            }
        }
        if (known.size() >= 2 && known.stream().allMatch(r -> t[r] == -1)) {
            for (int r = 0; r < n; r++) {
                Stat a = s.stats.get(r);
                if (tried.contains(r)) {
                    a.estimate = sample[r];
                    a.tendency = 0;
                } else if (a.estimate != null) {
                    a.estimate = a.estimate / 2;
                }
            }
            boolean before = s.fallback;
            s.fallback = true;
            event(2, s.no, NONE);
            if (!before) {
                event(3, s.no, NONE);
            }
        } else {
            for (int r : tried) {
                Stat a = s.stats.get(r);
                if (a.estimate == null) {
                    a.estimate = sample[r];
                } else if (t[r] != 0 && t[r] == a.tendency) {
                    a.estimate = sample[r];
                    a.tendency = 0;
                    event(1, s.no, r);
                } else {
                    a.estimate = (a.estimate * (100 - w.weight) + sample[r] * w.weight) / 100;
                    a.tendency = t[r];
                }
            }
            if (s.fallback) {
                s.fallback = false;
                event(4, s.no, NONE);
            }
        }
        for (Stat a : s.stats) {
            a.tries = 0;
            a.hits = 0;
        }
        s.losses = 0;
        int first = s.roles[0];
        roles(s);
        if (s.roles[0] != first) {
            event(5, s.no, s.roles[0]);
        }
        s.end = (long) w.time + w.length;
        return tried.size();
    }

    void ended() {
        for (Sta s : w.stations) {
            if (s.end <= w.time) {
                refresh(s);
            }
        }
    }

    int free() {
        for (int c = 0; c < 6; c++) {
            if (w.chains[c] == null) {
                return c;
            }
        }
        return NONE;
    }

    int put(Sta s, int size) {
        Laid chain = new Laid();
        chain.station = s.no;
        chain.size = size;
        s.chains++;
        Arrays.fill(s.refusal, NONE);
        int first = s.roles[0], second = s.roles[1], surest = s.roles[2], slowest = s.roles[3];
        int at = -1;
        if (s.fallback) {
            chain.kind = 2;
            chain.rate = new int[] {surest, slowest, slowest, slowest};
        } else {
            chain.rate = new int[] {first, second, surest, slowest};
            if ((s.sampled + 1) * 100 > s.chains * w.share) {
                s.refusal[0] = 1;
            } else {
                s.x = 1103515245 * s.x + 12345;
                int c = (s.x >>> 16) % w.rates.size();
                int cause = cause(s, c);
                if (cause == 0) {
                    chain.kind = 1;
                    chain.candidate = c;
                    s.sampled++;
                    at = w.rates.get(c).nominal() <= w.rates.get(first).nominal() ? 0 : 1;
                    chain.rate = at == 0 ? new int[] {c, first, surest, slowest}
                            : new int[] {first, c, surest, slowest};
                } else {
                    s.refusal[0] = 2;
                    s.refusal[1] = cause > 20 ? 12 : cause;
                    s.refusal[2] = cause > 20 ? cause : NONE;
                }
            }
        }
        for (int e = 0; e < 4; e++) {
            chain.tries[e] = e == at ? 1 : w.rates.get(chain.rate[e]).tries(size, w.budget);
        }
        int number = free();
        w.chains[number] = chain;
        return number;
    }

    int cause(Sta s, int c) {
        if (!s.stats.get(c).allowed) {
            return 11;
        }
        for (int role = 0; role < 3; role++) {
            if (s.roles[role] == c) {
                return 21 + role;
            }
        }
        if (s.stats.get(c).known() >= 62259) {
            return 13;
        }
        boolean slower = w.rates.get(c).nominal() > w.rates.get(s.roles[2]).nominal();
        return slower && s.stats.get(c).tries > 0 ? 14 : 0;
    }

    List<int[]> attempts(Laid c) {
        List<int[]> all = new ArrayList<>();
        for (int e = 0; e < 4; e++) {
            for (int j = 0; j < c.tries[e]; j++) {
                all.add(new int[] {c.rate[e], w.rates.get(c.rate[e]).attempt(c.size, j)});
            }
        }
        return all;
    }

    int end(int number, int tries, boolean ok) {
        Laid c = w.chains[number];
        Sta s = w.stations.get(c.station);
        w.chains[number] = null;
        int spent = 0;
        for (int i = 0; i < tries; i++) {
            int[] a = attempts(c).get(i);
            spent += a[1];
            Stat stat = s.stats.get(a[0]);
            stat.tries++;
            stat.allTries++;
            if (ok && i == tries - 1) {
                stat.hits++;
                stat.allHits++;
            }
        }
        w.time += spent;
        s.deficit = Math.max(s.deficit - spent, -1000000);
        if (ok) {
            s.delivered++;
            s.losses = 0;
            if (s.fallback) {
                s.fallback = false;
                event(4, s.no, NONE);
            }
        } else {
            s.lost++;
            s.losses++;
            if (s.losses == 3 && !s.fallback) {
                s.fallback = true;
                event(3, s.no, NONE);
            }
        }
        ended();
        return spent;
    }

    // ---- the calls

    int addRate(int mode, int speed) {
        if (out(mode, 0, 2) || out(speed, 10, 10000)) {
            return BAD;
        }
        if (w.rates.size() == 8) {
            return FULL;
        }
        act();
        Rate r = new Rate();
        r.mode = mode;
        r.speed = speed;
        w.rates.add(r);
        for (Sta s : w.stations) {
            s.stats.add(new Stat());
            roles(s);
        }
        return w.rates.size() - 1;
    }

    int addStation() {
        if (w.stations.size() == 4) {
            return FULL;
        }
        act();
        Sta s = new Sta();
        s.no = w.stations.size();
        s.x = 7 * s.no + 1;
        s.end = (long) w.time + w.length;
        for (int r = 0; r < w.rates.size(); r++) {
            s.stats.add(new Stat());
        }
        w.stations.add(s);
        roles(s);
        return s.no;
    }

    int allow(int station, int rate, boolean on) {
        if (noStation(station) || noRate(rate)) {
            return BAD;
        }
        act();
        Sta s = w.stations.get(station);
        boolean before = s.stats.get(rate).allowed;
        s.stats.get(rate).allowed = on;
        roles(s);
        return before ? 1 : 0;
    }

    int setShare(int v) {
        if (out(v, 0, 50)) {
            return BAD;
        }
        act();
        int before = w.share;
        w.share = v;
        return before;
    }

    int setWeight(int v) {
        if (out(v, 1, 100)) {
            return BAD;
        }
        act();
        int before = w.weight;
        w.weight = v;
        return before;
    }

    int setInterval(int v) {
        if (out(v, 1000, 1000000)) {
            return BAD;
        }
        act();
        int before = w.length;
        w.length = v;
        return before;
    }

    int setBudget(int v) {
        if (out(v, 100, 100000)) {
            return BAD;
        }
        act();
        int before = w.budget;
        w.budget = v;
        return before;
    }

    int lay(int station, int size) {
        if (noStation(station) || out(size, 1, 4000)) {
            return BAD;
        }
        Sta s = w.stations.get(station);
        if (allowed(s).isEmpty()) {
            return STATE;
        }
        if (free() == NONE) {
            return FULL;
        }
        act();
        return put(s, size);
    }

    int enqueue(int station, int size) {
        if (noStation(station) || out(size, 1, 4000)) {
            return BAD;
        }
        if (w.stations.get(station).queue.size() == 8) {
            return FULL;
        }
        act();
        w.stations.get(station).queue.add(size);
        return w.stations.get(station).queue.size();
    }

    boolean ready(Sta s) {
        return !s.queue.isEmpty() && !allowed(s).isEmpty();
    }

    int dispatch() {
        if (free() == NONE) {
            return FULL;
        }
        if (w.stations.stream().noneMatch(this::ready)) {
            return NONE;
        }
        act();
        while (true) {
            Sta s = w.stations.get(w.turn);
            if (ready(s) && s.deficit > 0) {
                return put(s, s.queue.remove(0));
            }
            if (ready(s)) {
                s.deficit += 4000;
            }
            w.turn = (w.turn + 1) % w.stations.size();
        }
    }

    int report(int chain, int tries, boolean ok) {
        if (noChain(chain)) {
            return BAD;
        }
        List<int[]> all = attempts(w.chains[chain]);
        if (out(tries, 1, all.size()) || !ok && tries < all.size()) {
            return BAD;
        }
        long spent = 0;
        for (int i = 0; i < tries; i++) {
            spent += all.get(i)[1];
        }
        if (w.time + spent > Integer.MAX_VALUE) {
            return OVERFLOW;
        }
        act();
        return end(chain, tries, ok);
    }

    int pass(int length) {
        if (length < 0) {
            return BAD;
        }
        if ((long) w.time + length > Integer.MAX_VALUE) {
            return OVERFLOW;
        }
        act();
        w.time += length;
        ended();
        return w.time;
    }

    int update(int station) {
        if (noStation(station)) {
            return BAD;
        }
        act();
        return refresh(w.stations.get(station));
    }

    int kind(int chain) {
        return noChain(chain) ? BAD : w.chains[chain].kind;
    }

    int stationOf(int chain) {
        return noChain(chain) ? BAD : w.chains[chain].station;
    }

    int entryRate(int chain, int entry) {
        return noChain(chain) || out(entry, 0, 3) ? BAD : w.chains[chain].rate[entry];
    }

    int entryTries(int chain, int entry) {
        return noChain(chain) || out(entry, 0, 3) ? BAD : w.chains[chain].tries[entry];
    }

    int tag(int chain) {
        if (noChain(chain)) {
            return BAD;
        }
        Laid c = w.chains[chain];
        int tag = 4 * c.size + c.station;
        return c.kind == 0 ? tag : c.kind == 1 ? 3 * tag + c.candidate : tag + 100000;
    }

    /** The chance and the undivided time of attempts {rate, time}. */
    BigInteger[] odds(Sta s, List<int[]> attempts) {
        BigInteger one = BigInteger.valueOf(65536);
        BigInteger reach = one;
        BigInteger sum = BigInteger.ZERO;
        for (int[] a : attempts) {
            sum = sum.add(reach.multiply(BigInteger.valueOf(a[1])));
            reach = reach.multiply(BigInteger.valueOf(65536 - s.stats.get(a[0]).known())).divide(one);
        }
        return new BigInteger[] {one.subtract(reach), sum};
    }

    int deliveryChance(int chain) {
        if (noChain(chain)) {
            return BAD;
        }
        Laid c = w.chains[chain];
        return odds(w.stations.get(c.station), attempts(c))[0].intValueExact();
    }

    int expectedTime(int chain) {
        if (noChain(chain)) {
            return BAD;
        }
        Laid c = w.chains[chain];
        return odds(w.stations.get(c.station), attempts(c))[1].divide(BigInteger.valueOf(65536)).intValueExact();
    }

    int estimate(int station, int rate) {
        if (noStation(station) || noRate(rate)) {
            return BAD;
        }
        Integer e = w.stations.get(station).stats.get(rate).estimate;
        return e == null ? NONE : e;
    }

    int triesOf(int station, int rate) {
        return noStation(station) || noRate(rate) ? BAD : w.stations.get(station).stats.get(rate).allTries;
    }

    int successesOf(int station, int rate) {
        return noStation(station) || noRate(rate) ? BAD : w.stations.get(station).stats.get(rate).allHits;
    }

    int airTime(int rate, int size) {
        return noRate(rate) || out(size, 1, 65535) ? BAD : w.rates.get(rate).air(size);
    }

    int throughput(int station, int rate, int size) {
        if (noStation(station) || noRate(rate) || out(size, 1, 65535)) {
            return BAD;
        }
        Integer e = w.stations.get(station).stats.get(rate).estimate;
        if (e == null) {
            return NONE;
        }
        long product = (long) e * (8 * size);
        return product > Integer.MAX_VALUE ? OVERFLOW : (int) (product / w.rates.get(rate).air(size));
    }

    int role(int station, int role) {
        return noStation(station) || out(role, 0, 3) ? BAD : w.stations.get(station).roles[role];
    }

    int refusal(int station, int depth) {
        return noStation(station) || out(depth, 0, 2) ? BAD : w.stations.get(station).refusal[depth];
    }

    List<Integer> ofMode(int mode) {
        List<Integer> found = new ArrayList<>();
        for (int r = 0; r < w.rates.size(); r++) {
            if (w.rates.get(r).mode == mode) {
                found.add(r);
            }
        }
        found.sort(Comparator.comparingInt(r -> w.rates.get(r).speed));
        return found;
    }

    int rateOfMode(int mode, int k) {
        if (out(mode, 0, 2) || k < 0) {
            return BAD;
        }
        return k < ofMode(mode).size() ? ofMode(mode).get(k) : NONE;
    }

    int bestOfMode(int station, int mode) {
        if (noStation(station) || out(mode, 0, 2)) {
            return BAD;
        }
        Sta s = w.stations.get(station);
        List<Integer> found = ofMode(mode);
        found.retainAll(allowed(s));
        return found.stream().min(Comparator.comparingInt(r -> -value(s, r))).orElse(NONE);
    }

    int mostUsed(int station) {
        if (noStation(station)) {
            return BAD;
        }
        int best = NONE;
        for (int r = w.rates.size() - 1; r >= 0; r--) {
            int tries = triesOf(station, r);
            if (tries > 0 && (best == NONE || tries >= triesOf(station, best))) {
                best = r;
            }
        }
        return best;
    }

    int bestChain(int station, int size, int entry) {
        if (noStation(station) || out(size, 1, 4000) || out(entry, 0, 3)) {
            return BAD;
        }
        Sta s = w.stations.get(station);
        List<Integer> all = allowed(s);
        if (all.isEmpty()) {
            return NONE;
        }
        int[] best = null;
        BigInteger[] bestOdds = null;
        int n = all.size();
        for (int code = n * n * n * n - 1; code >= 0; code--) {
            Laid c = new Laid();
            c.size = size;
            int rest = code;
            for (int e = 3; e >= 0; e--) {
                c.rate[e] = all.get(rest % n);
                c.tries[e] = w.rates.get(c.rate[e]).tries(size, w.budget);
                rest /= n;
            }
            BigInteger[] odds = odds(s, attempts(c));
            if (best == null || odds[0].multiply(bestOdds[1]).compareTo(bestOdds[0].multiply(odds[1])) >= 0) {
                best = c.rate;
                bestOdds = odds;
            }
        }
        return best[entry];
    }

    int chains(int station) {
        return noStation(station) ? BAD : w.stations.get(station).chains;
    }

    int sampled(int station) {
        return noStation(station) ? BAD : w.stations.get(station).sampled;
    }

    int delivered(int station) {
        return noStation(station) ? BAD : w.stations.get(station).delivered;
    }

    int lost(int station) {
        return noStation(station) ? BAD : w.stations.get(station).lost;
    }

    int queued(int station) {
        return noStation(station) ? BAD : w.stations.get(station).queue.size();
    }

    int deficit(int station) {
        return noStation(station) ? Integer.MIN_VALUE : w.stations.get(station).deficit;
    }

    int inFallback(int station) {
        return noStation(station) ? BAD : w.stations.get(station).fallback ? 1 : 0;
    }

    int time() {
        return w.time;
    }

    int setQuality(int station, int rate, int quality) {
        if (noStation(station) || noRate(rate) || out(quality, 0, 1000)) {
            return BAD;
        }
        act();
        Stat a = w.stations.get(station).stats.get(rate);
        int before = a.quality;
        a.quality = quality;
        return before;
    }

    int trouble(int station, int n, int size) {
        if (noStation(station) || out(n, 1, 50) || out(size, 1, 4000)) {
            return BAD;
        }
        if (allowed(w.stations.get(station)).isEmpty()) {
            return STATE;
        }
        return free() == NONE ? FULL : w.time > 1000000000 ? OVERFLOW : 0;
    }

    int frames(int station, int n, int size, int seed) {
        int y = seed;
        int good = 0;
        Sta s = w.stations.get(station);
        for (int frame = 0; frame < n; frame++) {
            int number = put(s, size);
            int made = 0;
            boolean ok = false;
            for (int[] a : attempts(w.chains[number])) {
                y = 1103515245 * y + 12345;
                made++;
                if ((y >>> 16) % 1000 < s.stats.get(a[0]).quality) {
                    ok = true;
                    break;
                }
            }
            end(number, made, ok);
            good += ok ? 1 : 0;
        }
        return good;
    }

    int simulate(int station, int n, int size, int seed) {
        int trouble = trouble(station, n, size);
        if (trouble != 0) {
            return trouble;
        }
        act();
        return frames(station, n, size, seed);
    }

    int forecast(int station, int n, int size, int seed) {
        int trouble = trouble(station, n, size);
        if (trouble != 0) {
            return trouble;
        }
        World before = w;
        w = copy(w);
        int answer = frames(station, n, size, seed);
        w = before;
        return answer;
    }

    int oracle(int station, int size) {
        if (noStation(station) || out(size, 1, 4000)) {
            return BAD;
        }
        Sta s = w.stations.get(station);
        int best = NONE;
        for (int r : allowed(s)) {
            int quality = s.stats.get(r).quality;
            if (quality > 0 && (best == NONE || quality * w.rates.get(best).air(size)
                    > s.stats.get(best).quality * w.rates.get(r).air(size))) {
                best = r;
            }
        }
        return best;
    }

    int events() {
        return w.events;
    }

    int field(int k, int field) {
        return k < 0 ? BAD : k < w.log.size() ? w.log.get(k)[field] : NONE;
    }

    int eventKind(int k) {
        return field(k, 0);
    }

    int eventStation(int k) {
        return field(k, 1);
    }

    int eventRate(int k) {
        return field(k, 2);
    }

    int eventTime(int k) {
        return field(k, 3);
    }

    int save(int slot) {
        if (out(slot, 0, 1)) {
            return BAD;
        }
        slots[slot] = copy(w);
        return w.time;
    }

    int restore(int slot) {
        if (out(slot, 0, 1)) {
            return BAD;
        }
        if (slots[slot] == null) {
            return STATE;
        }
        w = copy(slots[slot]);
        history.clear();
        return w.time;
    }

    int undo() {
        if (history.isEmpty()) {
            return STATE;
        }
        w = history.removeLast();
        return history.size();
    }

    long digest() {
        List<Integer> v = new ArrayList<>(List.of(time(), events()));
        for (int s = 0; s < w.stations.size(); s++) {
            v.addAll(List.of(chains(s), sampled(s), delivered(s), lost(s), queued(s), deficit(s), inFallback(s)));
            v.addAll(List.of(role(s, 0), role(s, 1), role(s, 2), role(s, 3)));
            for (int r = 0; r < w.rates.size(); r++) {
                v.addAll(List.of(estimate(s, r), triesOf(s, r), successesOf(s, r)));
            }
        }
        for (int c = 0; c < 6; c++) {
            v.add(kind(c));
        }
        long h = 17;
        for (int x : v) {
            h = 31 * h + x;
        }
        return h;
    }
}
