import com.sun.management.ThreadMXBean;
import java.lang.management.ManagementFactory;

/** All calls of one run live in one room: no call but law and told may make anything. */
public final class RoomTest {
    private static final ThreadMXBean THREADS = (ThreadMXBean) ManagementFactory.getThreadMXBean();

    public static void main(String[] args) {
        // The first object loads the class, and the first asking its own classes: neither is the object's.
        THREADS.getCurrentThreadAllocatedBytes();
        new WarmGlass().wipe();
        long start = THREADS.getCurrentThreadAllocatedBytes();
        WarmGlass x = new WarmGlass();
        long made = THREADS.getCurrentThreadAllocatedBytes() - start;
        Check.due("an object of " + made + " bytes is small", made < 20000 ? 1 : 0, 1);
        for (int i = 0; i < 8; i++) {
            x.cell(i % 6, 10021000 + i, 25, 9999);
            x.house((i + 1) * 1000 + i % 2 * 100 + i / 4 * 10 + i, 10 + i);
        }
        Check.law(x, "sum(mul(p,t),if(h,c,w))", 50);
        Check.law(x, "less(900,t)", 150);
        Check.told(x, "part(t,3)", 0);
        Check.told(x, "less(h,5)", 1);
        x.force(1);
        x.sheet(0, 64, 40);
        x.sheet(1, 64, 40);
        dearCalls(x);
        start = THREADS.getCurrentThreadAllocatedBytes();
        long sum = 0;
        for (int i = 0; i < 10; i++) {
            sum += dearCalls(x);
        }
        made = THREADS.getCurrentThreadAllocatedBytes() - start;
        Check.due("calls made " + made + " bytes (sum " + sum + ")", made < 2000 ? 1 : 0, 1);
        start = THREADS.getCurrentThreadAllocatedBytes();
        for (int i = 0; i < 200; i++) {
            x.feed('7' << 8 | ' ', 2);
            x.told(0);
        }
        made = THREADS.getCurrentThreadAllocatedBytes() - start;
        Check.due("200 texts of " + made + " bytes are small", made < 200 * 100 ? 1 : 0, 1);
        Check.end();
    }

    private static long dearCalls(WarmGlass x) {
        long sum = x.hours(50) + x.foretold(1, 0, 100, 2) + x.parted(2, 0, -1, 9999) + x.look(3, 0, 1, 100);
        sum += x.must(4, 0) + x.barred(4, 1, 3) + x.night(5, 0) + x.need(6, 999999, 20) + x.read(0, 3);
        sum += x.weeks(1, 2) + x.copy(0, 0, 1, 0, 40) + x.image() + x.undo() + x.count(6) + x.status(-1);
        sum += x.order(0) + x.saying(1) + x.shared(1000, 1) + x.beside(0, 1) + x.houseOf(3, 6) + x.as(5, 2);
        return sum + x.sheet(2, 16, 40) + x.write(2, 3, 5) + x.line(0, 5) + x.show(0) + x.feed(1, 1) + x.wipe();
    }
}
