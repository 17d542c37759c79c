import com.sun.management.ThreadMXBean;
import java.lang.management.ManagementFactory;

/** All calls of a run share one room, so no call may make objects: only a new works does, and few. */
public final class RoomTest {
    private static final long MOST_BYTES_OF_ONE = 20000;
    /** Leaves room for what the machine itself makes now and then, not for an object in each call. */
    private static final long MOST_BYTES_OF_ROUNDS = 20000;
    private static final int ROUNDS = 2000;

    private static int answers = 0;

    public static void main(String[] args) {
        ThreadMXBean threads = (ThreadMXBean) ManagementFactory.getThreadMXBean();
        long id = Thread.currentThread().getId();
        dearest(filled());
        long before = threads.getThreadAllocatedBytes(id);
        PorcelainWorks works = filled();
        long filled = threads.getThreadAllocatedBytes(id);
        for (int i = 0; i < ROUNDS; i++) {
            dearest(works);
        }
        long after = threads.getThreadAllocatedBytes(id);
        boolean right = true;
        if (filled - before > MOST_BYTES_OF_ONE) {
            right = false;
            System.out.println("one works takes " + (filled - before) + " bytes");
        }
        if (after - filled > MOST_BYTES_OF_ROUNDS) {
            right = false;
            System.out.println("calls take " + (after - filled) + " bytes in " + ROUNDS + " rounds");
        }
        System.out.println(right ? "room is kept (" + answers + ")" : "room is not kept");
        if (!right) {
            System.exit(1);
        }
    }

    private static PorcelainWorks filled() {
        PorcelainWorks x = new PorcelainWorks();
        x.paste(0, 0, 0);
        x.paste(0, 2, 0);
        x.paste(0, 3, 2000);
        x.batch(0, 1000);
        for (int i = 0; i < 80; i++) {
            x.piece(0, 0, 1, 100);
        }
        for (int i = 0; i < 12; i++) {
            x.stack(i, i);
            x.wood(3);
        }
        x.fire();
        for (int i = 12; i < 20; i++) {
            x.want(i, 100 + i);
        }
        for (int h = 0; h < 48; h++) {
            x.wood(3);
        }
        for (int j = 0; j < 8; j++) {
            x.job(300 + 23 * j);
        }
        for (int t = 0; t < 60; t++) {
            x.talk(t % 15, t % 15 + 1);
            x.days(1);
        }
        x.see(0, 0);
        x.see(0, 1);
        for (int d = 0; d < 6; d++) {
            x.debt(1000000, 500);
        }
        return x;
    }

    private static void dearest(PorcelainWorks x) {
        x.skill(0, 7);
        answers += x.paste(6, 0, 0) + x.peak(3) + x.heat(3, 48) + x.best() + x.bestPlace(7);
        answers += x.fires(4095) + x.fireHeat(4095, 0) + x.least() + x.painter(7);
        answers += x.service(0, 12, 100) + x.matched(0, 12, 100, 11) + x.chance(200, 100, 512);
        answers += x.make(200, 1023, 1048576) + x.knows(0) + x.joined() + x.leak();
        answers += x.owed(0, 4000) + x.pieceOf(0, 6) + x.count(4);
    }
}
