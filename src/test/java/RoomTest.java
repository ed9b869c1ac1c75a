import com.sun.management.ThreadMXBean;
import java.lang.management.ManagementFactory;

/**
 * All calls of one run live in one room of 7.3 million elements. An element takes a byte at least,
 * so what takes fewer bytes than that has room there.
 */
public final class RoomTest {
    private static final Due due = new Due("RoomTest");
    private static final long ROOM = 7_300_000;
    private static final int OBJECTS = 64;

    public static void main(String[] args) {
        ThreadMXBean threads = (ThreadMXBean) ManagementFactory.getThreadMXBean();
        long id = Thread.currentThread().getId();
        long before = threads.getThreadAllocatedBytes(id);
        dearCalls(new Counted());
        long made = threads.getThreadAllocatedBytes(id) - before;
        due.isTrue("an object and its 512 calls take " + made + " bytes", made <= ROOM);
        before = threads.getThreadAllocatedBytes(id);
        for (int i = 0; i < OBJECTS; i++) {
            new Counted().digest();
        }
        made = threads.getThreadAllocatedBytes(id) - before;
        due.isTrue(OBJECTS + " objects take " + made + " bytes", made <= ROOM);
        due.end();
    }

    private static void dearCalls(Counted x) {
        x.sheet(0, 25);
        x.book(0);
        x.weigh(0, 1, 9);
        x.weigh(0, 6, 4);
        x.shop(12, 2, true);
        for (int i = 0; i < 12; i++) {
            x.table(0);
        }
        for (int i = 0; x.callsLeft() >= 8; i++) {
            x.book(1);
            x.sheet(1, 25);
            x.cost(0, 0, 3, 6);
            x.service(i % 3, 0, 0, 3, 6);
            x.best(0, 3, 6);
            x.spoilt(0, 12, 3, 6, i % 2 == 0);
            x.digest();
            x.bestPair(0, 3, 6);
        }
    }
}
