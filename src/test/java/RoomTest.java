import java.lang.management.ManagementFactory;

/** All calls of a run live in one small room: no call makes an object. */
public final class RoomTest {
    private static final com.sun.management.ThreadMXBean MADE =
            (com.sun.management.ThreadMXBean) ManagementFactory.getThreadMXBean();
    /** What the measuring itself may make. */
    private static final long SLACK = 4096;

    private static long sink = 0;

    private static void dearCalls(PathSums x) {
        x.open(6);
        for (int i = 0; i < 12; i++) {
            x.gate(10, i % 6, 0, 0);
            x.gate(1, (i + 1) % 6, i % 6, 0);
            x.gate(5, (i + 1) % 6, 0, 0);
            x.gate(9, 0, 1, 2);
        }
        for (int i = 0; i < 100; i++) {
            sink += x.value(i % 64, i % 63, i % 5) + x.term(i) + x.wire(i % 6, 0) + x.total(i % 7) + x.rule(i % 3, 0);
        }
        for (int i = 0; i < 6; i++) {
            x.gate(11 + i % 2, i, 0, 0);
        }
        sink += x.reduce() + x.halves();
        x.begin(6, 63);
    }

    public static void main(String[] args) {
        Checks checks = new Checks();
        PathSums x = new PathSums();
        dearCalls(x);
        long before = MADE.getThreadAllocatedBytes(Thread.currentThread().getId());
        dearCalls(x);
        long made = MADE.getThreadAllocatedBytes(Thread.currentThread().getId()) - before;
        checks.due("bytes made by some 600 calls, " + made + ", are few", made <= SLACK, true);
        System.out.println("made " + made + " bytes (" + sink + ")");
        checks.end();
    }
}
