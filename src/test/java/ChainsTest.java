/** Promises 15 to 21. */
public final class ChainsTest {
    private static final int BAD = Due.BAD;
    private static final Due due = new Due("ChainsTest");

    public static void main(String[] args) {
        noSuchChain();
        kindsAndTags();
        entries();
        chanceAndTime();
        certainDelivery();
        due.end();
    }

    private static void noSuchChain() {
        RetryChains x = Due.network(1, 1, 540);
        x.lay(0, 100);
        x.lay(0, 100);
        x.report(0, 1, true);
        int[] wrong = {-1, 0, 2, 5, 6, Integer.MIN_VALUE, Integer.MAX_VALUE};
        for (int chain : wrong) {
            due.promise("15");
            due.is("kind(" + chain + ")", x.kind(chain), BAD);
            due.promise("16");
            due.is("stationOf(" + chain + ")", x.stationOf(chain), BAD);
            due.promise("17");
            due.is("entryRate(" + chain + ", 0)", x.entryRate(chain, 0), BAD);
            due.promise("18");
            due.is("entryTries(" + chain + ", 0)", x.entryTries(chain, 0), BAD);
            due.promise("19");
            due.is("tag(" + chain + ")", x.tag(chain), BAD);
            due.promise("20");
            due.is("deliveryChance(" + chain + ")", x.deliveryChance(chain), BAD);
            due.promise("21");
            due.is("expectedTime(" + chain + ")", x.expectedTime(chain), BAD);
        }
        for (int entry : new int[] {-1, 4, Integer.MIN_VALUE, Integer.MAX_VALUE}) {
            due.promise("17");
            due.is("entryRate(1, " + entry + ")", x.entryRate(1, entry), BAD);
            due.promise("18");
            due.is("entryTries(1, " + entry + ")", x.entryTries(1, entry), BAD);
        }
    }

    private static void kindsAndTags() {
        RetryChains x = Due.network(2, 1, 240, 1, 240, 1, 60, 1, 540);
        x.setShare(50);
        x.lay(0, 123);
        x.lay(0, 4000);
        due.promise("15");
        due.is("kind(0)", x.kind(0), 0);
        due.is("kind(1)", x.kind(1), 1);
        due.promise("19");
        due.is("tag(0)", x.tag(0), 492);
        due.is("tag(1)", x.tag(1), 48002);
        x.report(0, 1, true);
        // station 1: the first draw 3634, of 4 rates 2
        x.lay(1, 1);
        x.lay(1, 1000);
        due.is("tag(0)", x.tag(0), 5);
        due.is("tag(2)", x.tag(2), 3 * 4001 + 2);
        due.promise("16");
        due.is("stationOf(0)", x.stationOf(0), 1);
        due.is("stationOf(1)", x.stationOf(1), 0);
        Due.tries(x, 1, 0, 0, 0, 0);
        x.lay(1, 1000);
        due.promise("15");
        due.is("kind(3)", x.kind(3), 2);
        due.promise("19");
        due.is("tag(3)", x.tag(3), 104001);
        // the candidate is known by its entry also where it is the second one or faster than first
        x = Due.network(1, 1, 60, 1, 120, 1, 540, 0, 10);
        x.setShare(50);
        x.lay(0, 10);
        x.lay(0, 10);
        due.is("entryRate(1, 0)", x.entryRate(1, 0), 2);
        due.is("tag(1)", x.tag(1), 122);
    }

    private static void entries() {
        RetryChains x = Due.network(1, 0, 10, 1, 540, 1, 60);
        x.lay(0, 1200);
        int[] rates = {0, 1, 0, 0};
        int[] tries = {1, 5, 1, 1};
        for (int entry = 0; entry < 4; entry++) {
            due.promise("17");
            due.is("entryRate(0, " + entry + ")", x.entryRate(0, entry), rates[entry]);
            due.promise("18");
            due.is("entryTries(0, " + entry + ")", x.entryTries(0, entry), tries[entry]);
        }
    }

    private static void chanceAndTime() {
        // at 1200 bytes a try takes 327, 399 (rate 0), 551, 623 (rate 1)
        RetryChains x = Due.network(1, 1, 540, 1, 240);
        x.setBudget(1174);
        Due.teach(x, 0, 0, 3);
        x.lay(0, 1200);
        int[] rates = {0, 1, 0, 1};
        for (int entry = 0; entry < 4; entry++) {
            due.is("entryRate(0, " + entry + ")", x.entryRate(0, entry), rates[entry]);
            due.is("entryTries(0, " + entry + ")", x.entryTries(0, entry), 2);
        }
        due.promise("20");
        // 65536 * 43691 / 65536 = 43691, then 29127, 29127, 29127, 19418, 12945
        due.is("deliveryChance(0)", x.deliveryChance(0), 65536 - 12945);
        due.promise("21");
        long sum = 65536L * 327 + 43691L * 399 + 29127L * (551 + 623) + 29127L * 327 + 19418L * 399
                + 12945L * (551 + 623);
        due.is("expectedTime(0)", x.expectedTime(0), sum / 65536);
        Due.teach(x, 0, 1, 2);
        due.promise("20");
        // 43691, 29127, 14563, 7281, 4854, 3236, 1618, 809
        due.is("deliveryChance(0) by the present estimates", x.deliveryChance(0), 65536 - 809);
        due.promise("21");
        sum = 65536L * 327 + 43691L * 399 + 29127L * 551 + 14563L * 623 + 7281L * 327 + 4854L * 399
                + 3236L * 551 + 1618L * 623;
        due.is("expectedTime(0)", x.expectedTime(0), sum / 65536);
    }

    private static void certainDelivery() {
        RetryChains x = Due.network(2, 1, 540);
        Due.teach(x, 0, 0, 1);
        x.lay(0, 1200);
        x.lay(1, 1200);
        due.promise("20");
        due.is("deliveryChance(0)", x.deliveryChance(0), 65536);
        due.is("deliveryChance(1)", x.deliveryChance(1), 0);
        due.promise("21");
        due.is("expectedTime(0)", x.expectedTime(0), 327);
        due.is("expectedTime(1)", x.expectedTime(1), 4 * (327 + 399 + 543 + 831 + 1407));
    }
}
