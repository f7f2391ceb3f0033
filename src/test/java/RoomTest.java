import java.lang.management.ManagementFactory;

/** The room that all calls of a run share: 600,000 objects and 7.3 million fields and elements. */
public final class RoomTest {
    private static final int CALLS = 512;
    // An element takes a byte at least, and an object sixteen: in so many bytes there is room for
    // neither of the two numbers.
    private static final long ROOM = 7_300_000;
    private static final Due DUE = new Due("RoomTest");

    public static void main(String[] args) {
        com.sun.management.ThreadMXBean threads =
            (com.sun.management.ThreadMXBean) ManagementFactory.getThreadMXBean();
        long thread = Thread.currentThread().getId();
        useAll(new ProgramFacts(), CALLS);
        threads.getThreadAllocatedBytes(thread);
        long before = threads.getThreadAllocatedBytes(thread);
        useAll(new ProgramFacts(), CALLS);
        long bytes = threads.getThreadAllocatedBytes(thread) - before;
        System.out.println("a new object and 512 calls: " + bytes + " bytes");
        DUE.is("a new object and 512 calls keep to the room", bytes < ROOM, true);
        DUE.end();
    }

    private static void useAll(ProgramFacts x, int calls) {
        for (int k = 0; k < calls; k += 16) {
            x.relation(1 + k / 16 % 2);
            x.fact(9 + k % 5, k % 6, k / 6 % 6, k % 3 != 0);
            x.literal(9 + k / 16 % 5, 10, 11, false);
            x.literal(6, 10, 11, false);
            x.rule();
            x.forget(6 + k / 16 % 8);
            x.edit(k / 16 % 12, k / 16 % 6, k % 5, k % 4);
            x.holds(6, 0, 0);
            x.size(6);
            x.tuple(6, 0);
            x.ways(6, 0, 0);
            x.stratum(9);
            x.line(0, 0, 0);
            x.changes();
            x.step(k % 12);
            x.site(0);
        }
    }
}
