import com.sun.management.ThreadMXBean;
import java.lang.management.ManagementFactory;

/** Calls make no objects: all runs live in one room. */
public final class RoomTest {
    private static final int CALLS = 512;
    // one object with all its rows takes about 11,000 bytes; making even one object a call would take more than this
    private static final long ROOM = 40_000;

    private RoomTest() {
    }

    private static int allCalls(LearningSpans x, int call) {
        int sum = x.put(call % 8) + x.put(0) + x.letter(0) + x.bit(0) + x.letterOf(call % 9, 3) + x.count(call % 13);
        sum += x.cost(0) + x.bitsBy(1 + call % 64) + x.bestPace() + x.readBack(call % 3) + x.type(48 + call % 2);
        sum += x.fault(0) + x.told(0);
        switch (call % 37) {
            case 20: return sum + x.end() + x.write() + x.fault(1) + x.told(0);
            case 21: return sum + x.mend(0, call % 8) + x.undo();
            case 22: return sum + x.drop(1) + x.clearText();
            case 36: return sum + x.begin() + x.set(0, 1 + call % 64);
            default: return sum;
        }
    }

    private static long bytesOfRun(ThreadMXBean thread) {
        long before = thread.getThreadAllocatedBytes(Thread.currentThread().getId());
        LearningSpans x = new LearningSpans();
        int sum = 0;
        for (int call = 0; call < CALLS; call++) {
            sum += allCalls(x, call);
        }
        long after = thread.getThreadAllocatedBytes(Thread.currentThread().getId());
        return sum == Integer.MIN_VALUE ? -1 : after - before;
    }

    public static void main(String[] arguments) {
        ThreadMXBean thread = (ThreadMXBean) ManagementFactory.getThreadMXBean();
        bytesOfRun(thread);
        long bytes = bytesOfRun(thread);
        System.out.println("a run takes " + bytes + " bytes");
        Check.holds("a run takes little room", bytes >= 0 && bytes < ROOM);
        Check.finish();
    }
}
