import com.sun.management.ThreadMXBean;
import java.lang.management.ManagementFactory;

/** One run has a room: an object is laid out once, and its calls make nothing more. */
public final class RoomTest {
    private static final String DEAR = "reg a 7 3 1; reg b 7 9 1; walsh c 6 63; both d a b 5; hop h 31 1 1; samples 512;"
        + "send s a 9 0 1 77; send t b 7 3 2 99 drift 2; send u d 5 1 3 5; send v c 4 2 0 5; echo s 3 4; echo t 9 - 3; noise 9 9;";

    public static void main(String[] args) {
        ThreadMXBean bean = (ThreadMXBean) ManagementFactory.getThreadMXBean();
        long thread = Thread.currentThread().getId();
        run();
        long before = bean.getThreadAllocatedBytes(thread);
        SpreadRows x = new SpreadRows();
        long made = bean.getThreadAllocatedBytes(thread);
        Kit.write(x, DEAR);
        long told = bean.getThreadAllocatedBytes(thread);
        x.read();
        dearCalls(x);
        long after = bean.getThreadAllocatedBytes(thread);
        System.out.println("a new object: " + (made - before) + " bytes, all its calls: " + (after - told));
        Kit.due("a new object stays under 400000 bytes", made - before < 400000, true);
        Kit.due("calls stay under 20000 bytes", after - told < 20000, true);
        Kit.end();
    }

    private static void run() {
        SpreadRows x = new SpreadRows();
        Kit.write(x, DEAR);
        x.read();
        dearCalls(x);
    }

    private static void dearCalls(SpreadRows x) {
        for (int i = 0; i < 25; i++) {
            x.depth(3);
            x.family(20, 0);
            x.add(i % 4, 9);
            x.noise(50, i);
            x.metric(0, 5, 0, 9);
            x.best(0, 0, 9);
            x.second(1, 0, 9, 9);
            x.peak(0, 1, 0, 9, 100);
            x.alarms(1, 0, 9, 1000);
            x.plan(0, 0, 9, 1, 7, 1L << 40);
            x.hurt(0, 50, 50, 0);
            x.joined(1, 1);
            x.frame(3, 5, 3);
            x.atOnce(6);
            x.taken(0, 0);
            x.rest(4);
            x.loop(0, 5, 0, 3, 40);
            x.follows(1, 40);
            x.near(0, 5, 2, 7, 20000);
            x.hold(i % 3);
        }
    }
}
