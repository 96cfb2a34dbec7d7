import com.sun.management.ThreadMXBean;
import java.lang.management.ManagementFactory;

/** What runs of 512 calls make stays far below the room of 7.3 million fields and elements. */
public final class RoomTest {
    private static final ThreadMXBean THREADS = (ThreadMXBean) ManagementFactory.getThreadMXBean();
    /* A field or element takes four bytes here: this is less than a third of the room. */
    private static final long MOST_BYTES = 9_000_000;
    private static final int CALLS = 512;

    public static void main(String[] args) {
        for (int i = 0; i < 3; i++) {
            made("nothing", () -> { });
        }
        made("new objects", RoomTest::newObjects);
        made("openings", RoomTest::openings);
        made("ticks", RoomTest::ticks);
        made("long letters", RoomTest::longLetters);
        made("rounds", RoomTest::rounds);
        made("all lost", RoomTest::allLost);
        Check.finish();
    }

    private static void made(String name, Runnable run) {
        long before = THREADS.getThreadAllocatedBytes(Thread.currentThread().getId());
        run.run();
        long bytes = THREADS.getThreadAllocatedBytes(Thread.currentThread().getId()) - before;
        Check.due(name + " make " + bytes + " bytes, too many", bytes > MOST_BYTES, false);
    }

    private static void newObjects() {
        for (int i = 0; i < CALLS; i++) {
            new FarTypewriter().tick();
        }
    }

    private static void openings() {
        FarTypewriter x = new FarTypewriter();
        for (int i = 0; i < CALLS; i++) {
            x.open(0, 1, 1);
        }
    }

    private static void ticks() {
        FarTypewriter x = new FarTypewriter();
        x.open(0, 1, 1);
        for (int i = 0; i < CALLS / 2; i++) {
            x.write(32 + i % 95);
            x.tick();
        }
    }

    private static void longLetters() {
        FarTypewriter x = new FarTypewriter();
        x.open(0, 1, 1);
        for (int i = 0; i < CALLS / 3; i++) {
            x.key('a');
            x.tick();
            x.carry(0, 0, 1, 0);
        }
    }

    private static void rounds() {
        FarTypewriter x = new FarTypewriter();
        x.open(3, 1, 1);
        for (int i = 0; i < CALLS / 2; i++) {
            x.key(32 + i % 95);
            x.round();
        }
    }

    private static void allLost() {
        FarTypewriter x = new FarTypewriter();
        x.open(0, 1, 1);
        for (int i = 0; i < CALLS / 2; i++) {
            x.key(32 + i % 95);
            x.tick();
        }
    }
}
