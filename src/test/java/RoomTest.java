import com.sun.management.ThreadMXBean;
import java.lang.management.ManagementFactory;

/** All calls of a run live in one room: no call makes an object, and a new crown is small. */
public final class RoomTest {
    private static final ThreadMXBean THREADS = (ThreadMXBean) ManagementFactory.getThreadMXBean();
    private static long sink;

    public static void main(String[] args) {
        GlobeCrown crown = Check.three();
        callAll(crown);
        long start = THREADS.getCurrentThreadAllocatedBytes();
        long mid = THREADS.getCurrentThreadAllocatedBytes();
        for (int i = 0; i < 100; i++) {
            callAll(crown);
        }
        long end = THREADS.getCurrentThreadAllocatedBytes();
        Check.due("bytes made by calls", (end - mid) - (mid - start), 0);
        GlobeCrown[] crowns = new GlobeCrown[100];
        long before = THREADS.getCurrentThreadAllocatedBytes();
        for (int i = 0; i < 100; i++) {
            crowns[i] = new GlobeCrown();
        }
        long each = (THREADS.getCurrentThreadAllocatedBytes() - before) / 100;
        Check.due("a crown takes " + each + " bytes, less than 10000", each < 10000 ? 1 : 0, 1);
        sink += crowns[99].told(1);
        Check.end();
    }

    private static void callAll(GlobeCrown crown) {
        sink += crown.globe(3, 50, 50, 1, true) + crown.fly(3, 5) + crown.mood(3, 5, 5) + crown.put(3, 2);
        sink += crown.say('D') + crown.say('9') + crown.say('.') + crown.fault() + crown.judge(0);
        sink += crown.behind(3, 0) + crown.then(4) + crown.done() + crown.look(3, 0) + crown.just(8, 1);
        sink += crown.fill(99) + crown.vote(12345678, 0) + crown.rank(0, 543210) + crown.change(-1);
        sink += crown.seen(60, 0) + crown.who(-1) + crown.ask(0) + crown.forget() + crown.thumb(1);
        sink += crown.count(17, 3, 5, 0, 0) + crown.year(7, 99, 0) + crown.image(0) + crown.restore(0);
        sink += crown.told(4) + crown.wipe();
    }
}
