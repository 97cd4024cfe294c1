import com.sun.management.ThreadMXBean;
import java.lang.management.ManagementFactory;

/** All calls of a run live in one room: an object is small, and no call makes anything. */
public final class RoomTest {
    private static final int OBJECT_BYTES = 40000;

    public static void main(String[] args) {
        Due due = new Due();
        ThreadMXBean threads = (ThreadMXBean) ManagementFactory.getThreadMXBean();
        long self = Thread.currentThread().getId();
        long sum = 0;
        // The first rounds load classes.
        for (int round = 0; round < 5; round++) {
            long before = threads.getThreadAllocatedBytes(self);
            HallCarrier x = new HallCarrier();
            long made = threads.getThreadAllocatedBytes(self);
            sum += everyCall(x);
            long after = threads.getThreadAllocatedBytes(self);
            if (round == 4) {
                due.holds("an object takes " + (made - before) + " bytes", made - before < OBJECT_BYTES);
                due.holds("the hall was read", x.count(0) == 64 && x.count(4) == 6 && x.count(5) == 10);
                due.holds("calls take " + (after - made) + " bytes", after - made < 2000);
            }
        }
        due.holds("calls were answered", sum != 0);
        due.end();
    }

    private static long everyCall(HallCarrier x) {
        Due.tell(x, "...D.12./......../......../...#..../......../......../......../........");
        long sum = x.hall() + x.type(0x2E2E, 2) + x.clear();
        for (int i = 0; i < 6; i++) {
            sum += x.person(i % 4, 9 + i) + x.order(8 + i, 16 + i, 3 * i);
        }
        sum += x.carrier(0, 3) + x.carrier(9, 0);
        for (int i = 0; i < 10; i++) {
            sum += x.sign(i) + x.door(0, i & 1) + x.sees(i) + x.at(i & 1, 1) + x.could(i % 6, i) + x.anybody(i & 1, i);
            sum += x.let(i & 1) + x.soonest(i & 1, 9, i & 1) + x.act(i & 1, i % 5) + x.walk(i % 6, 9) + x.tick(1);
            sum += x.line(i, 0) + x.age(0, i) + x.charge(i % 7, i & 1) + x.lost() + x.look(6, 0) + x.step(i & 3);
            sum += x.where() + x.tells(i & 1) + x.late() + x.served(0, 0) + x.keep(0) + x.back(0) + x.count(i) + x.trace();
        }
        return sum;
    }
}
