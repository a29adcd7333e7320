import java.lang.management.ManagementFactory;

/** All calls of one run live in one room: what an object needs is made with it, and the calls make nothing. */
public final class RoomTest {
    private static final Due due = new Due("RoomTest");
    private static final com.sun.management.ThreadMXBean memory =
            (com.sun.management.ThreadMXBean) ManagementFactory.getThreadMXBean();

    public static void main(String[] args) {
        due.promise("the room");
        if (!memory.isThreadAllocatedMemorySupported()) {
            System.out.println("RoomTest: this machine does not count what a thread makes");
            return;
        }
        busyRun();
        long before = made();
        RetryChains x = busyObject();
        long object = made() - before;
        due.is("an object takes " + object + " bytes", object < 100000 ? 1 : 0, 1);
        before = made();
        dearCalls(x);
        long calls = made() - before;
        due.is("its calls take " + calls + " bytes", calls < 10000 ? 1 : 0, 1);
        due.end();
    }

    private static long made() {
        return memory.getThreadAllocatedBytes(Thread.currentThread().getId());
    }

    private static void busyRun() {
        dearCalls(busyObject());
    }

    private static RetryChains busyObject() {
        RetryChains x = new RetryChains();
        for (int rate = 0; rate < 8; rate++) {
            x.addRate(rate % 3, 10 + 90 * rate);
        }
        for (int station = 0; station < 4; station++) {
            x.addStation();
        }
        return x;
    }

    private static void dearCalls(RetryChains x) {
        for (int call = 0; call < 40; call++) {
            int station = call % 4;
            x.simulate(station, 50, 1500, call);
            x.forecast(station, 50, 1500, call);
            x.enqueue(station, 700);
            x.bestChain(station, 1500, 3);
            x.dispatch();
            x.report(0, 1, true);
            x.save(0);
            x.undo();
            x.digest();
            x.restore(0);
            x.pass(100000);
            x.update(station);
        }
    }
}
