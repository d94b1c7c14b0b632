import com.sun.management.ThreadMXBean;
import java.lang.management.ManagementFactory;

/** Calls make no objects: all calls of a run live in one room. */
public final class RoomTest {
    private static final long BOUND = 200_000;

    public static void main(String[] args) {
        Due due = new Due("RoomTest");
        ThreadMXBean threads = (ThreadMXBean) ManagementFactory.getThreadMXBean();
        long id = Thread.currentThread().getId();
        String text = "x;l016;l236;l456;h012;d016;l356,63,21,63,42,21";
        TrickHouses x = Due.told(text);
        long before = threads.getThreadAllocatedBytes(id);
        long sum = 0;
        for (int k = 0; k < 500; k++) {
            sum += dearCalls(x, text.length());
        }
        long made = threads.getThreadAllocatedBytes(id) - before;
        due.holds("500 rounds of calls made " + made + " bytes (" + sum + ")", made < BOUND);
        due.end();
    }

    private static long dearCalls(TrickHouses x, int length) {
        long sum = x.way(0, 0, 0, length) + x.sheet(1, 2, 60) + x.visits(1, 2, 0, 20, 0) + x.going(1, 2, 0, 1, 0);
        sum += x.best(0) + x.twos(0) + x.gift(0) + x.worst(0) + x.least() + x.hard();
        sum += x.reading(0, 0) + x.had(0, 0) + x.kinds(0) + x.odds(0, 0) + x.copy(1, 0, 1, 1, 59) + x.lose(1);
        return sum + x.tell(0) + x.knock(0);
    }
}
