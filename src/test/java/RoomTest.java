import java.lang.management.ManagementFactory;

/** All calls of a run share one room, so no call makes anything, and an object is small. */
public final class RoomTest {
    private static final Checks CHECKS = new Checks();
    private static final String DEAREST =
        "n6;g5;g4;g3;l0,1,9;l1,2,9;l2,0,9;l0,3,9;l1,3,9;l2,3,9;l0,4,9;l1,4,9;l2,4,9;l0,5,9;";

    public static void main(String[] args) {
        // The first looks at the counter make objects of their own.
        allocatedByNothing();
        allCalls(new DropQueues(), 20);
        allocatedByNothing();
        DropQueues x = new DropQueues();
        long before = allocated();
        allCalls(x, 4);
        long made = allocated() - before;
        CHECKS.due("bytes made by calls", made, allocatedByNothing());

        before = allocated();
        DropQueues[] many = new DropQueues[100];
        for (int k = 0; k < many.length; k++) {
            many[k] = new DropQueues();
        }
        CHECKS.holds("an object has less than 8000 fields and elements", allocated() - before < 100 * 8000 * 4L);
        CHECKS.due("the last one", many[99].count(0), 5);
        CHECKS.end("RoomTest");
    }

    private static long allocated() {
        return ((com.sun.management.ThreadMXBean) ManagementFactory.getThreadMXBean()).getCurrentThreadAllocatedBytes();
    }

    private static long allocatedByNothing() {
        long before = allocated();
        return allocated() - before;
    }

    private static void allCalls(DropQueues x, int rounds) {
        x.wipe();
        for (int k = 0; k < DEAREST.length(); k++) {
            x.write(DEAREST.charAt(k));
        }
        for (int round = 0; round < rounds; round++) {
            x.fault();
            x.lay();
            for (int k = 1; k < 9; k++) {
                x.clash(k, k - 1, 1);
                x.put(k % 3, k % 3, 5);
                x.feed(k % 3, k % 3, k);
            }
            x.room(0, 1 + round % 9);
            x.tell(0, round % 2);
            x.tell(1, round % 10);
            x.slot(60);
            x.undo();
            x.queue(0, 0, 1);
            x.link(0, 5);
            x.drop(0, 0);
            x.goes(0);
            x.goal(0, 3);
            x.ahead(60, 3);
            x.without(0);
            x.worst(2);
            x.drawn(round, 60, 2);
            for (int what = 0; what < 13; what++) {
                x.count(what);
            }
        }
    }
}
