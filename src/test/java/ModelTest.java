import java.util.ArrayList;
import java.util.List;
import java.util.Random;

/** Random runs of calls, each answer compared with that of the Model; the seeds are fixed. */
public final class ModelTest {
    private static final int CALLS = 512;

    private final Random random;
    private final RetryChains object = new RetryChains();
    private final Model model = new Model();
    private final List<String> told = new ArrayList<>();
    private final boolean isBusy;

    private ModelTest(long seed) {
        random = new Random(seed);
        isBusy = seed % 3 != 0;
    }

    public static void main(String[] args) {
        int runs = args.length > 0 ? Integer.parseInt(args[0]) : 400;
        for (int seed = 1; seed <= runs; seed++) {
            ModelTest test = new ModelTest(seed);
            if (!test.run()) {
                System.out.println("seed " + seed + ":");
                test.told.forEach(System.out::println);
                System.exit(1);
            }
        }
        System.out.println(runs + " runs of " + CALLS + " calls answer like the model");
    }

    private boolean run() {
        for (int i = 0; i < CALLS / 2; i++) {
            boolean same = i < 12 && isBusy ? setUp(i) : step();
            same = same && told("digest()", object.digest(), model.digest());
            if (!same) {
                return false;
            }
        }
        return true;
    }

    private boolean setUp(int i) {
        return i % 3 == 2 && i < 9 ? addStation() : addRate();
    }

    private boolean step() {
        int dice = random.nextInt(isBusy ? 130 : 100);
        if (dice < 50) {
            return ask(dice);
        }
        return dice < 62 ? change(dice - 50) : send(dice - 62);
    }

    private boolean told(String call, long got, long due) {
        told.add(call + " = " + got + (got == due ? "" : ", due is " + due));
        return got == due;
    }

    private int station() {
        return random.nextInt(20) == 0 ? random.nextInt(7) - 1 : random.nextInt(Math.max(1, model.w.stations.size()));
    }

    private int rate() {
        return random.nextInt(20) == 0 ? random.nextInt(11) - 1 : random.nextInt(Math.max(1, model.w.rates.size()));
    }

    private int size() {
        int[] edges = {0, 1, 4000, 4001, -5, 1200, 1500, 100};
        return random.nextInt(4) == 0 ? edges[random.nextInt(edges.length)] : 1 + random.nextInt(2000);
    }

    private int anySize() {
        int[] edges = {0, 1, 4095, 4096, 65535, 65536, -1, 1200};
        return random.nextInt(3) == 0 ? edges[random.nextInt(edges.length)] : 1 + random.nextInt(65535);
    }

    private int chain() {
        return random.nextInt(8) - (random.nextInt(8) == 0 ? 1 : 0);
    }

    private int near(int low, int high) {
        int[] edges = {low, high, low - 1, high + 1, Integer.MIN_VALUE, Integer.MAX_VALUE};
        return random.nextInt(8) == 0 ? edges[random.nextInt(6)] : low + random.nextInt(high - low + 1);
    }

    private boolean addStation() {
        return told("addStation()", object.addStation(), model.addStation());
    }

    private boolean addRate() {
        int mode = random.nextInt(25) == 0 ? random.nextInt(5) - 1 : random.nextInt(3);
        int[] usual = {10, 55, 60, 60, 110, 120, 240, 540, 650, 1300, 10000, 10, 9, 10001};
        int speed = random.nextInt(3) == 0 ? near(10, 10000) : usual[random.nextInt(usual.length)];
        return told("addRate(" + mode + ", " + speed + ")", object.addRate(mode, speed), model.addRate(mode, speed));
    }

    private boolean change(int which) {
        switch (which) {
            case 0:
                return addRate();
            case 1:
                return random.nextInt(3) == 0 ? addStation() : queue();
            case 2:
                return allow();
            case 3: {
                int v = random.nextInt(3) == 0 ? 50 : near(0, 50);
                return told("setShare(" + v + ")", object.setShare(v), model.setShare(v));
            }
            case 4: {
                int v = near(1, 100);
                return told("setWeight(" + v + ")", object.setWeight(v), model.setWeight(v));
            }
            case 5: {
                int v = random.nextInt(2) == 0 ? 1000 + random.nextInt(30000) : near(1000, 1000000);
                return told("setInterval(" + v + ")", object.setInterval(v), model.setInterval(v));
            }
            case 6: {
                int v = random.nextInt(2) == 0 ? 100 + random.nextInt(10000) : near(100, 100000);
                return told("setBudget(" + v + ")", object.setBudget(v), model.setBudget(v));
            }
            case 7: {
                int v = random.nextInt(12) - 1;
                int slot = v < 3 ? v : v % 2;
                return told("save(" + slot + ")", object.save(slot), model.save(slot));
            }
            case 8: {
                int slot = random.nextInt(6) == 0 ? random.nextInt(4) - 1 : random.nextInt(2);
                return random.nextInt(3) > 0 || told("restore(" + slot + ")", object.restore(slot), model.restore(slot));
            }
            case 9:
            case 10:
                return told("undo()", object.undo(), model.undo());
            default:
                return quality();
        }
    }

    private boolean allow() {
        int s = station();
        int r = rate();
        boolean on = random.nextInt(3) > 0;
        return told("allow(" + s + ", " + r + ", " + on + ")", object.allow(s, r, on), model.allow(s, r, on));
    }

    private boolean quality() {
        int s = station();
        int r = rate();
        int q = random.nextInt(3) == 0 ? random.nextInt(2) * 1000 : near(0, 1000);
        return told("setQuality(" + s + ", " + r + ", " + q + ")", object.setQuality(s, r, q), model.setQuality(s, r, q));
    }

    private boolean queue() {
        int s = station();
        int size = size();
        return told("enqueue(" + s + ", " + size + ")", object.enqueue(s, size), model.enqueue(s, size));
    }

    private boolean send(int dice) {
        int s = station();
        int size = size();
        if (dice < 8) {
            return told("lay(" + s + ", " + size + ")", object.lay(s, size), model.lay(s, size));
        }
        if (dice < 14) {
            return queue();
        }
        if (dice < 20) {
            return told("dispatch()", object.dispatch(), model.dispatch());
        }
        if (dice < 40) {
            return report();
        }
        if (dice < 44) {
            return told("update(" + s + ")", object.update(s), model.update(s));
        }
        if (dice < 48) {
            int length = random.nextInt(9) == 0 ? random.nextInt() : random.nextInt(40000);
            return told("pass(" + length + ")", object.pass(length), model.pass(length));
        }
        return frames(s, size);
    }

    private boolean report() {
        int chain = chain();
        boolean ok = random.nextInt(3) > 0;
        int all = Model.out(chain, 0, 5) || model.w.chains[chain] == null ? 9
                : model.attempts(model.w.chains[chain]).size();
        int tries = random.nextInt(6) == 0 ? random.nextInt(31) - 1 : ok ? 1 + random.nextInt(all) : all;
        String call = "report(" + chain + ", " + tries + ", " + ok + ")";
        return told(call, object.report(chain, tries, ok), model.report(chain, tries, ok));
    }

    private boolean frames(int s, int size) {
        int n = random.nextInt(2) == 0 ? 1 + random.nextInt(5) : near(1, 50);
        int seed = random.nextInt();
        String args = "(" + s + ", " + n + ", " + size + ", " + seed + ")";
        if (random.nextBoolean()) {
            return told("forecast" + args, object.forecast(s, n, size, seed), model.forecast(s, n, size, seed));
        }
        return told("simulate" + args, object.simulate(s, n, size, seed), model.simulate(s, n, size, seed));
    }

    private boolean ask(int which) {
        int s = station();
        int r = rate();
        int size = size();
        int any = anySize();
        int chain = chain();
        int four = near(0, 3);
        int mode = near(0, 2);
        int back = random.nextInt(24) - 1;
        String at = "(" + chain + ", " + four + ")";
        String of = "(" + s + ", " + r + ")";
        switch (which % 34) {
            case 0: return told("kind(" + chain + ")", object.kind(chain), model.kind(chain));
            case 1: return told("stationOf(" + chain + ")", object.stationOf(chain), model.stationOf(chain));
            case 2: return told("entryRate" + at, object.entryRate(chain, four), model.entryRate(chain, four));
            case 3: return told("entryTries" + at, object.entryTries(chain, four), model.entryTries(chain, four));
            case 4: return told("tag(" + chain + ")", object.tag(chain), model.tag(chain));
            case 5: return told("deliveryChance(" + chain + ")", object.deliveryChance(chain), model.deliveryChance(chain));
            case 6: return told("expectedTime(" + chain + ")", object.expectedTime(chain), model.expectedTime(chain));
            case 7: return told("estimate" + of, object.estimate(s, r), model.estimate(s, r));
            case 8: return told("triesOf" + of, object.triesOf(s, r), model.triesOf(s, r));
            case 9: return told("successesOf" + of, object.successesOf(s, r), model.successesOf(s, r));
            case 10: return told("airTime(" + r + ", " + any + ")", object.airTime(r, any), model.airTime(r, any));
            case 11: return told("throughput(" + s + ", " + r + ", " + any + ")",
                    object.throughput(s, r, any), model.throughput(s, r, any));
            case 12: return told("throughput(" + s + ", " + r + ", " + size + ")",
                    object.throughput(s, r, size), model.throughput(s, r, size));
            case 13: return told("role(" + s + ", " + four + ")", object.role(s, four), model.role(s, four));
            case 14: return told("refusal(" + s + ", " + mode + ")", object.refusal(s, mode), model.refusal(s, mode));
            case 15: return told("rateOfMode(" + mode + ", " + four + ")",
                    object.rateOfMode(mode, four), model.rateOfMode(mode, four));
            case 16: return told("bestOfMode(" + s + ", " + mode + ")", object.bestOfMode(s, mode), model.bestOfMode(s, mode));
            case 17: return told("mostUsed(" + s + ")", object.mostUsed(s), model.mostUsed(s));
            case 18: return random.nextInt(30) > 0 || told("bestChain(" + s + ", " + size + ", " + four + ")",
                    object.bestChain(s, size, four), model.bestChain(s, size, four));
            case 19: return told("chains(" + s + ")", object.chains(s), model.chains(s));
            case 20: return told("sampled(" + s + ")", object.sampled(s), model.sampled(s));
            case 21: return told("delivered(" + s + ")", object.delivered(s), model.delivered(s));
            case 22: return told("lost(" + s + ")", object.lost(s), model.lost(s));
            case 23: return told("queued(" + s + ")", object.queued(s), model.queued(s));
            case 24: return told("deficit(" + s + ")", object.deficit(s), model.deficit(s));
            case 25: return told("inFallback(" + s + ")", object.inFallback(s), model.inFallback(s));
            case 26: return told("time()", object.time(), model.time());
            case 27: return told("oracle(" + s + ", " + size + ")", object.oracle(s, size), model.oracle(s, size));
            case 28: return told("events()", object.events(), model.events());
            case 29: return told("eventKind(" + back + ")", object.eventKind(back), model.eventKind(back));
            case 30: return told("eventStation(" + back + ")", object.eventStation(back), model.eventStation(back));
            case 31: return told("eventRate(" + back + ")", object.eventRate(back), model.eventRate(back));
            case 32: return told("eventTime(" + back + ")", object.eventTime(back), model.eventTime(back));
            default: return told("refusal(" + s + ", 2)", object.refusal(s, 2), model.refusal(s, 2));
        }
    }
}
