import com.sun.management.ThreadMXBean;
import java.lang.management.ManagementFactory;

/** No call makes objects: whatever is called, all room was taken by the constructor. */
public final class RoomTest {
    private static final Due due = new Due("RoomTest");
    /** Made ahead, for the test's own arrays would count as well. */
    private static final int[] LETTERS = {'c', '3', '4', ';', 'h', '0', '2', ';', 'w', '3', '0', '9', ';'};

    public static void main(String[] args) {
        ThreadMXBean threads = (ThreadMXBean) ManagementFactory.getThreadMXBean();
        for (int i = 0; i < 3; i++) {
            callAll(new RailsOfIce());
        }
        RailsOfIce x = new RailsOfIce();
        long before = threads.getThreadAllocatedBytes(Thread.currentThread().getId());
        long bare = threads.getThreadAllocatedBytes(Thread.currentThread().getId()) - before;
        before = threads.getThreadAllocatedBytes(Thread.currentThread().getId());
        long sum = callAll(x);
        long taken = threads.getThreadAllocatedBytes(Thread.currentThread().getId()) - before - bare;
        due.is("bytes taken by calls (sum " + sum + ")", 0, taken);
        due.end();
    }

    private static long callAll(RailsOfIce x) {
        long sum = x.many(16);
        for (int yard = 0; yard < 16; yard++) {
            sum += x.turn(yard, yard % 6, yard % 10) + x.frost(yard, 30 + yard);
        }
        for (int train = 0; train < 4; train++) {
            sum += x.train(20 + 5 * train, train, 1 + train % 3);
        }
        sum += lineOf(x) + inMind(x) + plans(x);
        sum += x.hours(30) + x.waits(3, 5) + x.weather(0, 5) + x.back() + x.image() + x.restore();
        return sum + x.count(5) + x.yard(1, 5) + x.told(0, 3) + x.judge(3) + x.clear();
    }

    private static long lineOf(RailsOfIce x) {
        long sum = 0;
        for (int letter : LETTERS) {
            sum += x.feed(letter);
        }
        return sum + x.line() + x.line();
    }

    private static long inMind(RailsOfIce x) {
        long sum = x.frostIn(3, 72) + x.trainIn(1, 72, 2) + x.through(72, 1) + x.thin(9, 20) + x.lasts(4, 9)
                + x.lowest(72, 1) + x.mean(5, 0) + x.runs(9, 1) + x.day() + x.stands(2) + x.lots(20, 3, 0);
        for (int train = 0; train < 4; train++) {
            sum += x.last(train) + x.bestWait(train, 1) + x.heaviest(train, 0) + x.heaviest(train, 2);
        }
        return sum;
    }

    private static long plans(RailsOfIce x) {
        return x.pourFirst() + x.pourFewest(3) + x.strongest(30) + x.order(0) + x.timetable(2, 3) + x.row(3) + x.said()
                + x.lies() + x.tells() + x.near(3) + x.rescue(0) + x.march(2) + x.noons(2, 1) + x.thaw() + x.noon(2)
                + x.needed(4, 2) + x.key() + x.blocker();
    }
}
