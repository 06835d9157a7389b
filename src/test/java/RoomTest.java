import com.sun.management.ThreadMXBean;
import java.lang.management.ManagementFactory;

/** All calls of one run live in one room: an object takes little of it, and its calls take nothing more. */
public final class RoomTest {
    private static final int MOST_BYTES = 32768; // some 70 objects and 2,700 numbers, most of them longs
    private static final Due due = new Due("RoomTest");
    private static final ThreadMXBean room = (ThreadMXBean) ManagementFactory.getThreadMXBean();
    private static long answers = 0;

    public static void main(String[] args) {
        long ofObject = Long.MAX_VALUE;
        long ofCalls = Long.MAX_VALUE;
        // the machine makes things of its own when code runs for the first time, so the least of some rounds counts
        for (int round = 0; round < 5; round++) {
            long start = room.getCurrentThreadAllocatedBytes();
            long ofNothing = room.getCurrentThreadAllocatedBytes() - start;
            start = room.getCurrentThreadAllocatedBytes();
            StraitFleet x = new StraitFleet();
            ofObject = Math.min(ofObject, room.getCurrentThreadAllocatedBytes() - start - ofNothing);
            start = room.getCurrentThreadAllocatedBytes();
            callAll(x);
            ofCalls = Math.min(ofCalls, room.getCurrentThreadAllocatedBytes() - start - ofNothing);
        }
        due.holds("an object takes " + ofObject + " bytes", ofObject > 0 && ofObject <= MOST_BYTES);
        due.is("bytes that its calls take", ofCalls, 0);
        due.holds("the calls answer", answers != 0);
        due.close();
    }

    private static void callAll(StraitFleet x) {
        ships(x);
        for (int hour = 0; hour < 3; hour++) {
            asks(x, hour);
        }
        answers += x.noOffers() + x.forget() + x.ashore(3) + x.wipe() + x.scrap(0) + x.restore(1) + x.told(1);
    }

    private static void ships(StraitFleet x) {
        answers += x.say('3') + x.say('0') + x.say('9') + x.fault(0) + x.tide();
        for (int i = 0; i < 8; i++) {
            answers += x.ship(i, 5 + 4 * i, i, 150 * i) + x.set(i, 9) + x.offer(i, 10 + i, 40 * i) + x.aboard(i, i / 3);
            answers += x.roll(i, 4);
        }
        answers += x.image(0) + x.image(1) + x.say('A') + x.say('W') + x.say('.') + x.say('B') + x.say('T');
        answers += x.judge(0) + x.behind(0, 1) + x.done() + x.say('A') + x.say('T') + x.judge(1) + x.fault(1);
    }

    private static void asks(StraitFleet x, int hour) {
        for (int ship = -1; ship < 6; ship++) {
            answers += x.state(ship, 1) + x.mean(ship, 1, hour) + x.worst(ship, 1, hour) + x.choice(ship, hour);
            answers += x.held(ship, hour, 1) + x.bound(hour, 9999, ship) + x.line(hour, ship, 0) + x.captain(ship, hour);
            answers += x.persuaded(ship, hour) + x.insured(ship, hour, 0) + x.years(ship, 7, 99, 0);
            answers += x.lot(3, ship, 1) + x.often(8, 3, 8, ship, 0);
        }
        answers += x.convoy(hour, 1) + x.sum(hour) + x.twice(1) + x.burnt() + x.restore(0) + x.told(100 + hour);
    }
}
