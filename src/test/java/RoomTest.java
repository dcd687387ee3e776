import com.sun.management.ThreadMXBean;
import java.lang.management.ManagementFactory;

/** What a long run makes stays small: rows are made with the object, and only bidders are made later. */
public final class RoomTest {
    private static final ThreadMXBean THREADS = (ThreadMXBean) ManagementFactory.getThreadMXBean();

    public static void main(String[] args) {
        Due due = new Due();
        longRun();
        long before = madeSoFar();
        SecondSilence x = new SecondSilence();
        long made = madeSoFar() - before;
        due.holds("a new object takes 16 KiB at most, it took " + made, made <= 16 * 1024);
        Due.write(x, "b459,t270,s381,e192,c563;2");
        before = madeSoFar();
        x.hall();
        made = madeSoFar() - before;
        due.holds("a hall takes 512 bytes at most, it took " + made, made <= 512);
        before = madeSoFar();
        callAll(x);
        made = madeSoFar() - before;
        due.holds("the other calls make nothing, they made " + made, made <= 64);
        due.close("RoomTest");
    }

    /** So that classes are loaded before anything is counted. */
    private static void longRun() {
        SecondSilence x = Due.in("b459,t270,s381,e192,c563;2");
        callAll(x);
        madeSoFar();
    }

    private static void callAll(SecondSilence x) {
        for (int i = 0; i < 20; i++) {
            x.rests(4, 0);
            x.touch(i % 5, (i + 1) % 5, true);
            x.hear(i % 5, 4);
            x.digest();
            x.sales(60, i, 1);
            x.image();
            x.restore();
            x.letter('b');
            x.fault();
            x.hall();
            x.as(i % 5, 1);
        }
    }

    private static long madeSoFar() {
        return THREADS.getThreadAllocatedBytes(Thread.currentThread().getId());
    }

    private RoomTest() {
    }
}
