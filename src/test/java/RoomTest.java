import com.sun.management.ThreadMXBean;
import java.lang.management.ManagementFactory;

/** What an object makes is made once: calls leave nothing behind, and the endings are built only when asked for. */
public final class RoomTest {
    private static final ThreadMXBean THREADS = (ThreadMXBean) ManagementFactory.getThreadMXBean();

    public static void main(String[] args) {
        calls(new GameHall(1), Texts.START);
        long start = made();
        GameHall hall = new GameHall(1);
        long built = made();
        Check.due("a new object has less than 300,000 bytes", built - start < 300_000, true);
        calls(hall, Texts.START);
        calls(hall, "8/7k/8/8/3B4/8/K7/8 w - - 0 1");
        long called = made();
        Check.due("calls make less than 30,000 bytes (" + (called - built) + ")", called - built < 30_000, true);
        calls(hall, "8/7k/8/8/3Q4/8/K7/8 w - - 0 1");
        calls(hall, "8/7k/8/8/3P4/8/K7/8 w - - 0 1");
        long endings = made();
        Check.due("endings have less than 3,000,000 bytes", endings - called < 3_000_000, true);
        calls(hall, "8/7k/8/8/3R4/8/K7/8 w - - 0 1");
        calls(hall, "8/7k/8/8/3p4/8/K7/8 w - - 0 1");
        Check.due("nor are they made again", made() - endings < 30_000, true);
        Check.end("RoomTest");
    }

    private static long made() {
        return THREADS.getThreadAllocatedBytes(Thread.currentThread().getId());
    }

    private static void calls(GameHall hall, String text) {
        Check.submit(hall, text);
        for (int k = 0; k < 8; k++) {
            hall.linesTo(2);
            hall.valueAt(2);
            hall.bestAt(1);
            hall.distanceToMate();
            hall.matingMove();
            hall.spelling(0);
            hall.recordAt(0);
            hall.status(11);
            if (hall.status(4) == 0) {
                hall.proceed(0);
            }
        }
    }
}
