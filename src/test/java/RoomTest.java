import com.sun.management.ThreadMXBean;
import java.lang.management.ManagementFactory;

/** A run of 512 calls, the dearest ones too, keeps far within its room: what an object needs is made once. */
public final class RoomTest {
    private RoomTest() {
    }

    private static long bytes() {
        return ((ThreadMXBean) ManagementFactory.getThreadMXBean()).getThreadAllocatedBytes(Thread.currentThread().getId());
    }

    public static void main(String[] args) {
        // classes are loaded first, so that they are not counted
        calls(new DividingHead());
        bytes();
        long before = bytes();
        DividingHead x = new DividingHead();
        long made = bytes() - before;
        Check.holds("a new object takes few bytes: " + made, made < 20000);
        for (int i = 0; i < 20; i++) {
            calls(x);
        }
        before = bytes();
        for (int i = 0; i < 30; i++) {
            calls(x);
        }
        long later = bytes() - before;
        Check.holds("later calls make nothing but small things: " + later, later < 20000);
        Check.finish();
    }

    /** Some 20 calls; none of them writes a text, as that would make objects of the test. */
    private static void calls(DividingHead x) {
        x.keep(0);
        x.keep(1);
        x.hard(341, 400);
        x.nearest(355, 113);
        x.lead(1234);
        x.ratios();
        x.near(99999, 77777, 1000);
        x.tree(1, 400);
        x.angle(12345);
        x.divides(60, 0);
        x.divides(51, 1);
        x.divides(51, 2);
        x.gaps();
        x.reaches();
        x.missing(400);
        x.years(5, 30);
        x.uses(3);
        x.uses(0);
        x.sign('c' << 24 | 'w' << 16 | 'c' << 8 | 'w');
        x.day();
        x.sign('2' << 24 | '0' << 16 | '0' << 8 | '0');
        x.end(2);
        x.gears();
        x.nearest(1, 1);
        x.undo();
        x.wipes();
        x.again(1);
        x.undo();
    }
}
