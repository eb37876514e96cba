import com.sun.management.ThreadMXBean;
import java.lang.management.ManagementFactory;

/** What objects and calls take of the room: a new object some, no call anything. */
public final class RoomTest {
    private static final Check CHECK = new Check("RoomTest");
    private static final int MOST_BYTES = 64 * 1024;

    public static void main(String[] args) {
        ThreadMXBean threads = (ThreadMXBean) ManagementFactory.getThreadMXBean();
        long own = Thread.currentThread().getId();
        useAll(new LockedLetter());
        long before = threads.getThreadAllocatedBytes(own);
        long measuring = threads.getThreadAllocatedBytes(own) - before;
        before = threads.getThreadAllocatedBytes(own);
        LockedLetter x = new LockedLetter();
        long made = threads.getThreadAllocatedBytes(own) - before - measuring;
        CHECK.due("a new object of " + made + " bytes is small", made <= MOST_BYTES, true);
        before = threads.getThreadAllocatedBytes(own);
        long answers = useAll(x);
        long taken = threads.getThreadAllocatedBytes(own) - before - measuring;
        // Less than one small row: the measuring itself may not be even.
        CHECK.due("calls take nothing, not " + taken + " bytes", taken < 256, true);
        CHECK.due("the calls were made", answers != 0, true);
        CHECK.end();
    }

    /** Every call, the dear ones with the most that there can be. */
    private static long useAll(LockedLetter x) {
        long sum = 0;
        for (int i = 0; i < 99; i++) {
            // "cut 1+1+1+1+1+1+1+1;" sixteen times, then blanks, and once more to fail.
            sum += i < 16 ? x.feed(0x63757420, 0x312b312b, 0x312b312b, 0x312b312b, 0x312b313b)
                : x.feed(0x20202020, 0x20202020, 0x20202020, 0x20202020, 0x20202020);
        }
        sum += x.back(3) + x.read() + x.place();
        sum += x.feed(0x63757421, 0, 0, 0, 0) + x.read() + x.place();
        for (int i = 0; i < 6; i++) {
            sum += x.hand(6);
        }
        for (int i = 0; i < 40; i++) {
            sum += x.look(i % 36, i % 3);
        }
        sum += x.tale(40) + x.tales(40) + x.told(35, 40) + x.opened(5, 40) + x.turned(0);
        for (int parts = 2; parts <= 8; parts++) {
            sum += x.sheet(parts) ? 1 : 0;
            sum += x.fold(1, true, true) + x.tuck(1, false, 1) + x.slit(0, 2) + x.lock(0, 2) + x.seal(0) + x.soil();
            for (int p = 0; p < parts; p++) {
                sum += x.part(p, 5) + x.mark(p) + x.layers(p) + x.at(p, 0) + x.harm(p) + x.by(p) + x.ease(p) + x.undone(p);
            }
            sum += x.rows() + x.row(0);
            x.finds();
            sum += x.rows() + (x.find(0, 0, 3) ? 1 : 0) + x.shut() + x.undo() + x.count(5);
        }
        return sum;
    }
}
