import com.sun.management.ThreadMXBean;
import java.lang.management.ManagementFactory;

/** No call makes an object, and a new object of the class is small: all calls of a run live in one room. */
public final class RoomTest {
    private static final ThreadMXBean threads = (ThreadMXBean) ManagementFactory.getThreadMXBean();
    private static int sum = 0;

    public static void main(String[] args) {
        long forObjects = 0;
        long forCalls = 0;
        for (int round = 0; round < 20; round++) {
            long before = bytes();
            EchoFolk x = new EchoFolk();
            long made = bytes();
            dearCalls(x);
            forObjects = made - before;
            forCalls = bytes() - made;
        }
        System.out.println("RoomTest: a new object takes " + forObjects + " bytes, the calls " + forCalls + " (" + sum + ")");
        if (forObjects > 40_000 || forCalls > 1_000) System.exit(1);
    }

    private static long bytes() {
        return threads.getThreadAllocatedBytes(Thread.currentThread().getId());
    }

    private static void dearCalls(EchoFolk x) {
        x.seed(3);
        x.deal(8);
        x.talk(100);
        for (int i = 0; i < 8; i++) for (int k = 0; k < 4; k++) x.speaks(i, k, k + 4, k + 8);
        for (int i = 0; i < 40; i++) {
            // keep 12-w+e, each time anew
            x.feed(1801807216, 540095021, 1999335712);
            x.trim(11);
            sum += x.text();
            sum += x.keep();
            sum += x.quiet(100, 1) + x.spreads(19) + x.ears(i % 8, 60, 1) + x.learns(i % 8, 100) + x.behind(100, 2);
            x.sheet(0, i % 2, 24);
            sum += x.teacher(0, i % 8, 0) + x.who(0) + x.breaths(0, i % 8);
            sum += x.lay(i % 5, 2, 0) + x.tell(i) + x.check(30);
            if (i % 10 == 9) x.back();
        }
    }
}
