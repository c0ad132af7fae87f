import com.sun.management.ThreadMXBean;
import java.lang.management.ManagementFactory;

/** The room of a run: an object is small, and no call on it makes anything. */
public final class RoomTest {
    private static final ThreadMXBean THREADS = (ThreadMXBean) ManagementFactory.getThreadMXBean();
    /** 7.3 million elements of four bytes, for as many objects as a run has calls, and one more. */
    private static final long MOST_BYTES = 7_300_000L * 4 / 513;

    public static void main(String[] args) {
        everyCall(new RunCuts());
        long before = bytes();
        RunCuts x = new RunCuts();
        long made = bytes() - before;
        System.out.println("an object takes " + made + " bytes");
        Due.due("an object is small", made <= MOST_BYTES ? 1 : 0, 1);
        before = bytes();
        for (int i = 0; i < 12; i++) everyCall(x);
        made = bytes() - before;
        Due.due("bytes made by calls", made <= 256 ? 0 : made, 0);
        Due.end();
    }

    private static long bytes() {
        return THREADS.getThreadAllocatedBytes(Thread.currentThread().getId());
    }

    private static void everyCall(RunCuts x) {
        for (int p = 0; p < 4; p++) {
            for (int i = 0; i < 3; i++) x.letter('1' + i);
            if (p < 3) x.letter(';');
        }
        x.fault();
        x.run();
        x.letter('a');
        x.blank();
        x.local(0, 1);
        x.send(1, 2);
        x.receive(2, 1);
        x.back(2);
        x.allow(0, 6);
        x.event(0, 0, 4);
        x.order(0, 0, 1, 1);
        x.cut(1111, 5);
        x.value(1111, 1);
        x.under(1410, 1, 2);
        x.meet(1000, 100);
        x.join(1000, 100);
        x.lattice(3);
        x.level(5, 5);
        x.wished(3);
        x.around(1);
        x.least();
        x.strong();
        x.interval(0, 0, 0);
        x.lean(1);
        x.play(77);
        x.played(1);
        x.shot(2, 5);
        x.shots(1);
        x.count(3);
        x.digest();
        x.wish(3, 4);
        x.digest();
        x.wish(0, 0);
    }
}
