import com.sun.management.ThreadMXBean;
import java.lang.management.ManagementFactory;

/** All calls of a run live in one room: an object is small, and its calls make nothing. */
public final class RoomTest {
    private static final int CALLS = 20_000;

    public static void main(String[] args) {
        Due due = new Due("RoomTest");
        ThreadMXBean threads = (ThreadMXBean) ManagementFactory.getThreadMXBean();
        Wire w = new Wire();
        for (int k = 0; k < 6; k++) {
            w.write(0, "name" + k, Wire.filled(96, k));
            w.write(1, "name" + k, Wire.filled(90, k));
        }
        use(w.link, 500);
        long thread = Thread.currentThread().getId();
        long before = threads.getThreadAllocatedBytes(thread);
        use(w.link, CALLS);
        long made = threads.getThreadAllocatedBytes(thread) - before;
        due.is("bytes made by " + CALLS + " rounds of calls: " + made + ", below one each", made < CALLS, true);

        before = threads.getThreadAllocatedBytes(thread);
        DiodeLink fresh = new DiodeLink();
        made = threads.getThreadAllocatedBytes(thread) - before;
        due.is("bytes of an object: " + made + ", below 100,000", made < 100_000 && fresh.isSound(), true);
        due.end();
    }

    private static void use(DiodeLink x, int rounds) {
        for (int s = 0; s < rounds; s++) {
            if (s % 500 == 0) {
                x.commit(s / 500 % 2);
            }
            int slot = x.send();
            x.hear(slot);
            x.packet(slot, 8);
            x.have(0, 1 + s % 9);
            x.rank(1, 1 + s % 9, s % 7, s % 2);
            x.release(s % 2);
            x.isSound();
        }
    }
}
