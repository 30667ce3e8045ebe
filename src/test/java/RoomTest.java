import com.sun.management.ThreadMXBean;
import java.lang.management.ManagementFactory;

/** All calls of a run live in one room: only new tables and carriers may take some of it. */
public final class RoomTest {
    private static final ThreadMXBean ROOM = (ThreadMXBean) ManagementFactory.getThreadMXBean();

    private static long sum = 0;

    public static void main(String[] args) {
        use(new ArrowTables());
        long before = taken();
        ArrowTables x = new ArrowTables();
        Due.holds("an object takes less than 40,000 bytes", taken() - before < 40_000);
        before = taken();
        use(x);
        Due.holds("8 tables and 24 carriers take less than 40,000 bytes", taken() - before < 40_000);
        before = taken();
        for (int i = 0; i < 10; i++) {
            ask(x);
        }
        long asked = taken() - before;
        Due.holds("asking takes nothing: " + asked, asked < 1_000);
        Due.end();
    }

    private static long taken() {
        return ROOM.getThreadAllocatedBytes(Thread.currentThread().getId());
    }

    private static void use(ArrowTables x) {
        for (int n = 1; n <= 6; n++) {
            sum += Worlds.chain(x, n);
        }
        sum += x.turned(2);
        sum += Worlds.sheaf(x, 11);
        for (int k = 0; k < 10; k++) {
            sum += x.carrier(2, 2, k);
        }
        for (int k = 10; k < 30; k++) {
            sum += x.then(k % 10, k - 1);
            sum += x.answers(k % 10);
        }
        sum += x.table(1) + x.order(1, 1) + x.turned(0) + x.beside(0, 0);
    }

    private static void ask(ArrowTables x) {
        sum += x.carriers(5, 5) + x.carriers(2, 2) + x.same(2, 6) + x.carrier(2, 2, 99) + x.carrier(2, 2, 0);
        sum += x.then(0, 0) + x.answers(0) + x.answer(3, 1, 0) + x.limit(0) + x.leg(0) + x.cones(0, 0);
        sum += x.bridges(0, 3) + x.bridge(0, 3, 0, 0) + x.told(3, 2) + x.told(3, 3) + x.told(3, 4) + x.gives(0, 0);
        sum += x.sieves(7, 1) + x.sieve(7, 1, 2000) + x.pull(7, 1, 4, 2) + x.follows(7, 1, 4, 8);
        sum += x.table(1) + x.arrow(0, 0, 0) + x.way(0, 0, 0, 0) + x.close(0) + x.fault(5, 0) + x.order(1, 1);
        sum += x.turned(0) + x.beside(0, 0) + x.about(5, 3) + x.about(5, 4) + x.end(0, 0, 0) + x.wayOf(0, 0, 0);
        sum += x.count(2) + x.digest();
    }
}
