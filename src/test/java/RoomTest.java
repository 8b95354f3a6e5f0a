import com.sun.management.ThreadMXBean;
import java.lang.management.ManagementFactory;

/** All calls of a run live in one room, so that only new objects and new sheets may take any of it. */
public final class RoomTest {
    private static final ThreadMXBean THREADS = (ThreadMXBean) ManagementFactory.getThreadMXBean();
    private static final Due DUE = new Due();
    private static int answers;

    private static long taken() {
        return THREADS.getThreadAllocatedBytes(Thread.currentThread().getId());
    }

    private static HeldTongues fullTown() {
        HeldTongues x = new HeldTongues();
        for (int i = 0; i < 8; i++) {
            x.person(i % 6, 90, 20, i);
        }
        x.sheet(0, 3, 40);
        for (int i = 0; i < 40; i++) {
            x.put(0, i, -1);
        }
        x.sheet(1, 0, 8);
        x.shelf(0, 0, 4);
        return x;
    }

    private static void ask(HeldTongues x) {
        for (long eight : new long[] {0x206e657a69746963L, 0x203b6b6e6f6d203bL, 0x6874697720302072L}) {
            answers += x.feed(eight, 8);
        }
        answers += x.best(5) + x.bestOf(5, 7) + x.sound(60) + x.hush() + x.luck(30) + x.day() + x.days(60);
        answers += x.eased(3) + x.full(3) + x.partnerFor(1, 20) + x.kindFor(1, 20) + x.voiceFor(1, 20, 9999);
        answers += x.fits(0, 5, 0) + x.fits(0, 5, 1) + x.prove(2, 10) + x.judge(2) + x.row(1, 1) + x.minds(1, 0, 0, 8);
        answers += (int) (x.odds(8, 4, 0) + x.hope(99, 1)) + x.act(0, 3, 7) + x.trace(3) + x.taken(0, 2);
        answers += x.keep() + x.pair(0, 1) + x.mind(3, 2, 1) + x.again() + x.shelf(2, 1, 0) + x.state(5) + x.many(6);
        answers += x.town();
        answers += x.again();
    }

    public static void main(String[] args) {
        HeldTongues x = fullTown();
        ask(x);
        ask(x);
        long nothing = taken();
        nothing = taken() - nothing;
        long before = taken();
        ask(x);
        long asked = taken() - before - nothing;
        // What ask itself makes, its row of three longs, is all.
        DUE.holds("calls took " + asked + " bytes", asked <= 64);

        before = taken();
        for (int i = 0; i < 512; i++) {
            answers += x.sheet(0, 3, 40);
        }
        long sheets = taken() - before - nothing;
        DUE.holds("512 sheets took " + sheets + " bytes", sheets <= 512 * 400);

        before = taken();
        new HeldTongues();
        long made = taken() - before - nothing;
        DUE.holds("a new object took " + made + " bytes", made <= 6000);
        System.out.println("calls " + asked + ", sheets " + sheets + ", a new object " + made + " bytes"
                + (answers == 0 ? "" : "."));
        DUE.end();
    }
}
