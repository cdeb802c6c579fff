import java.lang.management.ManagementFactory;

/** A call makes no objects, and a new object is small: all calls of a run live in one room. */
public final class RoomTest {
    private static final com.sun.management.ThreadMXBean THREADS =
        (com.sun.management.ThreadMXBean) ManagementFactory.getThreadMXBean();
    private static long sink;

    public static void main(String[] args) {
        PaperTrail x = Check.land("c75qsal" + Check.PATHS, 0, 1, 2, 4, 5, 6);
        long made = bytesOf(x, true);
        made = bytesOf(x, true);
        Check.due("a new object of " + made + " bytes is too large", made > 20000 ? 1 : 0, 0);
        bytesOf(x, false);
        long used = bytesOf(x, false);
        Check.due("bytes that calls made", used, 0);
        Check.due("never", sink == 42 ? 1 : 0, 0);
        Check.end();
    }

    private static long bytesOf(PaperTrail x, boolean anew) {
        long before = THREADS.getThreadAllocatedBytes(Thread.currentThread().getId());
        if (anew) {
            sink += new PaperTrail().asked();
        } else {
            useAll(x);
        }
        return THREADS.getThreadAllocatedBytes(Thread.currentThread().getId()) - before;
    }

    private static void useAll(PaperTrail x) {
        sink += x.fault(0) + x.country(0) + x.trail(0) + x.lure(1, 0, 2) + x.lure(2, 0, 2) + x.wind(4);
        sink += x.row(1, 40) + x.lay(1, 3, 4) + x.at(1, 3) + x.copy(1, 0, 1, 1, 39) + x.mean(1) + x.tear(1);
        sink += x.text(1, 80) + x.put(1, 3, 4) + x.hound(0, 1) + x.mark(0, 1) + x.minutes(0, 1) + x.head(1);
        sink += x.paper() + x.empty(9) + x.keep(0) + x.on(0) + x.hares(1) + x.comes(0, 1) + x.pack(1, 2);
        sink += x.caught() + x.ahead() + x.call(1) + x.best() + x.fewest(3) + x.trails() + x.least(3) + x.route(3);
        sink += x.across(0, 0, 2) + x.parted(2, 2) + x.chance(0, 30) + x.mid(0) + x.run(5) + x.gone(0) + x.off(0);
        sink += x.row(4, 6) + x.kinds(4) + x.asked() + x.upper() + x.lower() + x.finding() + x.findings(1) + x.digest();
    }
}
