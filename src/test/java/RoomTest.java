import com.sun.management.ThreadMXBean;
import java.lang.management.ManagementFactory;

/** What 512 calls of one kind take of the room that all calls of a run share. */
public final class RoomTest {
    // 600,000 objects of at most 24 bytes beside their fields, and 7.3 million fields of at most 8 bytes.
    private static final long ROOM = 600_000L * 24 + 7_300_000L * 8;
    private static final ThreadMXBean THREADS = (ThreadMXBean) ManagementFactory.getThreadMXBean();

    public static void main(String[] args) {
        staysSmall("new mixers alone", x -> 0);
        staysSmall("digest()", x -> x.digest());
        staysSmall("render()", x -> x.render(1000));
        staysSmall("mix()", x -> x.mix(3999, true));
        staysSmall("duckGain()", x -> x.duckGain(0, 3999));
        staysSmall("setSource()", x -> x.setSource(1, 3, 4000, 7, 4000));
        staysSmall("setMaster()", x -> x.setMaster(5));
        staysSmall("setPoint()", x -> x.setPoint(0, 100, 5, true));
        staysSmall("moveClip()", x -> x.moveClip(2, 700));
        staysSmall("a refused addClip()", x -> x.addClip(0, 0, 0, 0, 5, 5));
        staysSmall("a refused deleteTime()", x -> x.deleteTime(0, 2950, 2999));
        staysSmall("a refused render()", x -> x.render(1001));
        Check.end();
    }

    private static void staysSmall(String what, Edge.Call call) {
        long before = THREADS.getThreadAllocatedBytes(Thread.currentThread().getId());
        ClipMixer x = Edge.rich();
        for (int k = 0; k < 495; k++) {
            Edge.answer(x, call);
        }
        long taken = THREADS.getThreadAllocatedBytes(Thread.currentThread().getId()) - before;
        Check.yes(what + " takes " + taken + " bytes", taken <= ROOM);
    }
}
