import java.lang.management.ManagementFactory;

/** The room: the constructor makes all that an object needs, and no call makes anything more. */
public final class RoomTest {
    private static final int CALLS = 512;
    private static final Due DUE = new Due("RoomTest");

    public static void main(String[] args) {
        com.sun.management.ThreadMXBean threads =
            (com.sun.management.ThreadMXBean) ManagementFactory.getThreadMXBean();
        long thread = Thread.currentThread().getId();
        ProgramFacts x = new ProgramFacts();
        useAll(new ProgramFacts(), CALLS);
        threads.getThreadAllocatedBytes(thread);
        long before = threads.getThreadAllocatedBytes(thread);
        useAll(x, CALLS);
        long bytes = threads.getThreadAllocatedBytes(thread) - before;
        // A little for the measuring itself; one small object a call would be some ten thousand.
        DUE.is("calls make nothing (" + bytes + " bytes)", bytes < 2000, true);
        DUE.end();
    }

    private static void useAll(ProgramFacts x, int calls) {
        for (int k = 0; k < calls; k += 16) {
            x.relation(1 + k / 16 % 2);
            x.fact(9 + k % 5, k % 6, k / 6 % 6, k % 3 != 0);
            x.literal(9 + k / 16 % 5, 10, 11, false);
            x.literal(6, 10, 11, false);
            x.rule();
            x.forget(6 + k / 16 % 8);
            x.edit(k / 16 % 12, k / 16 % 6, k % 5, k % 4);
            x.holds(6, 0, 0);
            x.size(6);
            x.tuple(6, 0);
            x.ways(6, 0, 0);
            x.stratum(9);
            x.line(0, 0, 0);
            x.changes();
            x.step(k % 12);
            x.site(0);
        }
    }
}
