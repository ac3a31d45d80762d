import com.sun.management.ThreadMXBean;
import java.lang.management.ManagementFactory;

/** All calls of a run share one room: what an object makes, it makes when it is made, and no call makes more. */
public final class RoomTest {
    private static final Due due = new Due("RoomTest");
    private static final ThreadMXBean THREADS = (ThreadMXBean) ManagementFactory.getThreadMXBean();
    private static long kept = 0;

    public static void main(String[] args) {
        SlowPaths x = Due.told(CircuitTest.DEEP);
        for (int i = 0; i < 20; i++) allCalls(x, i);
        long before = made();
        for (int i = 0; i < 20; i++) allCalls(x, i);
        long calls = made() - before;
        due.is("bytes that 20 rounds of all calls made are few: " + calls, calls < 20_000 ? 1 : 0, 1);
        before = made();
        SlowPaths y = new SlowPaths();
        long object = made() - before;
        due.is("bytes of an object are few: " + object, object < 100_000 ? 1 : 0, 1);
        kept += y.count(0);
        due.is("calls were made", kept != 0 ? 1 : 0, 1);
        due.end();
    }

    private static long made() {
        return THREADS.getThreadAllocatedBytes(Thread.currentThread().getId());
    }

    private static void allCalls(SlowPaths x, int i) {
        int kind = (i + 1) % 4;
        kept += x.wipe() + x.circuit();
        for (int at = 0; at < CircuitTest.DEEP.length(); at++) kept += x.write(CircuitTest.DEEP.charAt(at));
        kept += x.fault() + x.circuit() + x.gate(i % 8, 1) + x.slow(i % 8, 9) + x.turn(i % 8, kind) + x.keep(0);
        kept += x.path(i, 2) + x.longest(1) + x.value(7, 3) + x.tests(i, 3) + x.best(i, 1, 2, 0) + x.pruned();
        kept += x.packed(0, -1) + x.packed(1, 2) + x.wave(7, 3, i) + x.late(3, i) + x.judge(4, 2001_5001_2000_6001L);
        kept += x.see(3, i, 1) + x.slower(0) + x.unsee() + x.share(i % 8, true) + x.slows(3, i, 5, false);
        kept += x.seed(i) + x.drawn(20) + x.undo() + x.again(0) + x.count(4);
    }
}
