import com.sun.management.ThreadMXBean;
import java.lang.management.ManagementFactory;

/** No call makes an object: what a CableDrawer needs is made with it, and that is little. */
public final class RoomTest {
    private static final String DRAWER = "lead a long 30 costs 9 used 3; lead b long 30 used 2; lead c long 30; lead d long 30;"
        + "lead e long 9; lead f long 9; lead g long 9; lead h long 9; cross a b tight; cross c d knot; look l a b c;";
    private static final String YEARS = "loop 40; open 3; take a; take b; when lump > 3; loosen; end; end;";

    public static void main(String[] args) {
        ThreadMXBean threads = (ThreadMXBean) ManagementFactory.getThreadMXBean();
        // The first round loads the classes and is not counted.
        rounds(Check.with(DRAWER, YEARS), threads);
        CableDrawer x = Check.with(DRAWER, YEARS);
        Check.due("bytes taken by some 4,000 calls", rounds(x, threads) < 4000, true);
        long before = threads.getThreadAllocatedBytes(Thread.currentThread().getId());
        for (int n = 0; n < 10; n++) {
            new CableDrawer();
        }
        long each = (threads.getThreadAllocatedBytes(Thread.currentThread().getId()) - before) / 10;
        System.out.println(each + " bytes an object");
        Check.due("bytes of one object", each < 40000, true);
        Check.finish();
    }

    private static long rounds(CableDrawer x, ThreadMXBean threads) {
        long before = threads.getThreadAllocatedBytes(Thread.currentThread().getId());
        for (int n = 0; n < 100; n++) {
            round(x, n);
        }
        return threads.getThreadAllocatedBytes(Thread.currentThread().getId()) - before;
    }

    private static void round(CableDrawer x, int n) {
        x.tray(0, 3, 60);
        x.write(0, 5, n);
        x.pour(0, 5, 0, 6, 9);
        x.copyStates(0);
        x.mark();
        for (int k = 0; k < 6; k++) {
            x.open(n + k);
        }
        x.all();
        x.key();
        x.alone(0);
        x.soonest();
        x.boxes(40);
        x.tries(0);
        x.fresh(0, 9);
        x.worse(0, 1);
        x.mean(n, 2);
        x.odds(1, n, 2);
        x.live(n);
        x.loosen();
        x.pull(2);
        x.follow(3, 0);
        x.back();
        for (int k = 0; k < 5; k++) {
            x.feed(0x6c6f6f73, 0x656e3b20, 0x6c6f6f73, 0x656e3b20, 0x6c6f6f2d);
        }
        x.years(100);
        x.drawer(-1);
        x.fault(0);
    }
}
