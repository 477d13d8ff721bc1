import com.sun.management.ThreadMXBean;
import java.lang.management.ManagementFactory;

/** All calls of a run live in one room: what an object needs is made with it, and no call makes more. */
public final class RoomTest {
    private static final ThreadMXBean THREADS = (ThreadMXBean) ManagementFactory.getThreadMXBean();

    private RoomTest() {
    }

    public static void main(String[] args) {
        useAll(new KingsBoard());
        long start = made();
        long forLooking = made() - start;
        start = made();
        KingsBoard x = new KingsBoard();
        long forOne = made() - start - forLooking;
        Check.same("a new object of more than 64 KiB", forOne > 65536 ? forOne : 0, 0);
        start = made();
        useAll(x);
        long forCalls = made() - start - forLooking;
        // Some bytes may be the machine's own.
        Check.same("calls that make more than 4 KiB", forCalls > 4096 ? forCalls : 0, 0);
        Check.end();
    }

    private static long made() {
        return THREADS.getThreadAllocatedBytes(Thread.currentThread().getId());
    }

    private static void useAll(KingsBoard x) {
        for (int i = 0; i < 8; i++) {
            x.type(0x2F382F382F382F38L, 8);
            x.read();
            x.place();
            x.play(12, 28, 0);
            x.play(52, 36, 0);
            x.search(3);
            x.chosen(0);
            x.ways(2);
            x.state();
            x.write();
            x.written(0);
            x.man(0);
            x.about(5);
            x.attacked(20, 0);
            x.move(x.moves() - 1, 2);
            x.worth();
            x.back();
            x.back();
        }
    }
}
