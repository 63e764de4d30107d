import com.sun.management.ThreadMXBean;
import java.lang.management.ManagementFactory;

/** What 512 of the dearest calls make stays far below the one room of 7.3 million fields and elements. */
public final class RoomTest {
    // Most elements are ints, of 4 bytes each.
    private static final long BYTES_OF_THE_ROOM = 4 * 7_300_000L;

    public static void main(String[] args) {
        ThreadMXBean threads = (ThreadMXBean) ManagementFactory.getThreadMXBean();
        long thread = Thread.currentThread().getId();
        calls(new WaistSand());
        laws(new WaistSand());
        long before = threads.getThreadAllocatedBytes(thread);
        calls(new WaistSand());
        long byCalls = threads.getThreadAllocatedBytes(thread) - before;
        laws(new WaistSand());
        long byLaws = threads.getThreadAllocatedBytes(thread) - before - byCalls;
        Check.due("room of 512 searches and acts, " + byCalls, byCalls < BYTES_OF_THE_ROOM / 100, true);
        Check.due("room of 512 calls that tell laws, " + byLaws, byLaws < BYTES_OF_THE_ROOM / 100, true);
        Check.ends("RoomTest");
    }

    private static void calls(WaistSand x) {
        Check.beach(x, "legs 9 9;move 1 up 1 down 0 stirs 1 takes 3;person 5 at 0 0;boards 9");
        Check.law(x, "up 1 if calm>2;settle 2 if lying;down 1 if water>leg");
        for (int i = 0; i < 50; i++) {
            x.image();
            x.talk();
            x.moves(60);
            x.stuck();
            x.worth(1);
            x.best(127, 3);
            x.person(0, 2);
            x.placed();
            x.span(40, true);
            x.back();
        }
    }

    private static void laws(WaistSand x) {
        int[] up = Check.fed("up 1 if leg<other   ".getBytes(), 0);
        for (int i = 0; i < 256; i++) {
            x.feed(up[0], up[1], up[2], up[3], up[4]);
            x.law();
        }
    }
}
