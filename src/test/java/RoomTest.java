import com.sun.management.ThreadMXBean;
import java.lang.management.ManagementFactory;

/** All calls of one run live in one room: after the constructor next to nothing may be made. */
public final class RoomTest {
    private static final Due due = new Due("RoomTest");

    public static void main(String[] args) {
        ThreadMXBean threads = (ThreadMXBean) ManagementFactory.getThreadMXBean();
        long id = Thread.currentThread().getId();
        dearCalls(new SendForMore(), 20);
        long before = threads.getThreadAllocatedBytes(id);
        SendForMore x = new SendForMore();
        long made = threads.getThreadAllocatedBytes(id) - before;
        due.isTrue("a new object takes " + made + " bytes, at most 40000", made <= 40000);
        before = threads.getThreadAllocatedBytes(id);
        dearCalls(x, 500);
        long later = threads.getThreadAllocatedBytes(id) - before;
        due.isTrue("500 dear calls take " + later + " bytes, at most 10000", later <= 10000);
        due.end();
    }

    private static void dearCalls(SendForMore x, int n) {
        x.sheet(0, 25);
        x.book(0);
        x.weigh(0, 1, 9);
        x.weigh(0, 6, 4);
        x.shop(12, 2, true);
        for (int i = 0; i < 12; i++) {
            x.table(0);
        }
        for (int i = 0; i < n; i++) {
            x.book(1);
            x.sheet(1, 25);
            x.cost(0, 0, 3, 6);
            x.service(i % 3, 0, 0, 3, 6);
            x.best(0, 3, 6);
            x.spoilt(0, 12, 3, 6, i % 2 == 0);
            x.digest();
            if (i % 10 == 0) {
                x.bestPair(0, 3, 6);
            }
        }
    }
}
