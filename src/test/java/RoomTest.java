import com.sun.management.ThreadMXBean;
import java.lang.management.ManagementFactory;

/** All calls of one run live in one room, so none of them may make objects. */
public final class RoomTest {
    private static final Check CHECK = new Check();
    private static final ThreadMXBean THREADS =
        (ThreadMXBean) ManagementFactory.getThreadMXBean();

    public static void main(String[] args) {
        callsOnce(dearProgram());
        TypeForecast x = dearProgram();
        long before = THREADS.getThreadAllocatedBytes(Thread.currentThread().getId());
        callsOnce(x);
        long made = THREADS.getThreadAllocatedBytes(Thread.currentThread().getId()) - before;
        CHECK.yes("the calls made objects of " + made + " bytes", made < 20000);
        before = THREADS.getThreadAllocatedBytes(Thread.currentThread().getId());
        new TypeForecast();
        made = THREADS.getThreadAllocatedBytes(Thread.currentThread().getId()) - before;
        CHECK.yes("a new object takes " + made + " bytes", made < 100000);
        CHECK.finish();
    }

    /** Each variable begins to grow when the one before it has come to its end. */
    private static TypeForecast dearProgram() {
        TypeForecast x = new TypeForecast();
        int one = x.leaf(0, 1);
        int least = x.leaf(0, -16);
        int most = x.leaf(0, 16);
        for (int v = 0; v < 5; v++) {
            x.assign(v, least);
        }
        x.loop(one);
        for (int v = 0; v < 5; v++) {
            int variable = x.leaf(3, v);
            x.assign(v, x.apply(0, variable, one));
            if (v < 4) {
                x.branch(x.apply(4, most, variable));
            }
        }
        for (int v = 0; v < 5; v++) {
            x.end();
        }
        return x;
    }

    private static void callsOnce(TypeForecast x) {
        for (int i = 0; i < 90; i++) {
            CHECK.same("look", x.look(), 0);
            CHECK.same("run", x.run(1000), -2);
            CHECK.same("seen", x.seen(5, 4), 1);
            CHECK.same("bound", x.bound(5, 4, 1), 17);
            x.number(i);
        }
    }
}
