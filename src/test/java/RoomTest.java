import java.lang.management.ManagementFactory;
import java.util.function.IntConsumer;

/** All calls of a run share one room: a call makes nothing, an object is small. */
public final class RoomTest {
    private static final int CALLS = 512;
    private static final com.sun.management.ThreadMXBean COUNTER =
        (com.sun.management.ThreadMXBean) ManagementFactory.getThreadMXBean();
    private static int sink = 0;

    private RoomTest() {
    }

    private static long bytesOf(IntConsumer call, int calls) {
        long before = COUNTER.getCurrentThreadAllocatedBytes();
        for (int index = 0; index < calls; index++) {
            call.accept(index);
        }
        return COUNTER.getCurrentThreadAllocatedBytes() - before;
    }

    private static void makesNothing(String what, IntConsumer call) {
        call.accept(0);
        long bytes = bytesOf(call, CALLS);
        // Counting itself takes some bytes; one small array a call would be 512 times 24.
        Check.same(what + " 512 times in few bytes (" + bytes + ")", bytes < CALLS * 8, true);
    }

    public static void main(String[] args) {
        IntConsumer made = index -> sink += new ChoreAssignment().rows();
        made.accept(0);
        long bytes = bytesOf(made, CALLS);
        Check.same("512 objects in few bytes (" + bytes + ")", bytes < CALLS * 8000L, true);

        ChoreAssignment x = new ChoreAssignment();
        x.resize(6, 6);
        x.fill(77, 99);
        makesNothing("save and restore", index -> sink += x.save() + x.restore());
        makesNothing("swap and transpose", index -> sink += x.swapRows(0, 1) + x.transpose());
        makesNothing("isSound", index -> sink += x.isSound() ? 1 : 0);
        makesNothing("reducedCost", index -> sink += x.reducedCost(1, 2));
        makesNothing("secondBest", index -> sink += x.secondBest());
        makesNothing("countWithin", index -> sink += x.countWithin(index));
        makesNothing("sumOf", index -> sink += x.sumOf(654321));
        makesNothing("maximum and bottleneck", index -> sink += x.maximum() + x.bottleneck());
        makesNothing("checksum", index -> sink += (int) x.checksum());
        makesNothing("startEnumeration", index -> sink += x.startEnumeration());
        makesNothing("nextSum", index -> sink += x.nextSum() + x.currentColumn(0));
        Check.end();
    }
}
