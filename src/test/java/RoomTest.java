import com.sun.management.ThreadMXBean;
import java.lang.management.ManagementFactory;

/**
 * All calls of one run live in one room: what an object makes, in its constructor and in 512 of its dearest calls,
 * stays far below 7.3 million elements.
 */
public final class RoomTest {
    private static final long MOST_BYTES = 2_000_000;

    public static void main(String[] args) {
        ThreadMXBean threads = (ThreadMXBean) ManagementFactory.getThreadMXBean();
        run(); // Classes are loaded once, and do not count.
        long thread = Thread.currentThread().getId();
        long before = threads.getThreadAllocatedBytes(thread);
        run();
        long made = threads.getThreadAllocatedBytes(thread) - before;
        System.out.println(made + " bytes made");
        Due.answer("less than " + MOST_BYTES + " bytes", made < MOST_BYTES ? 1 : 0, 1);
        Due.end();
    }

    private static void run() {
        NotationPress x = new NotationPress();
        int calls = 0;
        for (int slot = 0; slot < 6; slot++) x.item(1, slot, 5, 2);
        x.description();
        for (int i = 0; i < 15; i++) x.type(0, 0x61616161);
        x.close(0);
        x.constrain(0, 1, 7, 7, 0, 7);
        for (int i = 0; i < 8; i++) x.change(4, i, i, i);
        x.upgrade();
        x.column(0, 1, 0, 5);
        x.stream(0, 0);
        for (; calls < 400; calls += 8) {
            x.readings(0, 0, 0);
            x.readingsAnew(0, 0, 0);
            x.read(0, 0, 0, 0);
            x.sample(0, calls);
            x.step(0);
            x.stream(0, 0);
            x.message(0);
            x.upgraded(0, 0);
        }
    }
}
