import com.sun.management.ThreadMXBean;
import java.lang.management.ManagementFactory;
import java.util.NoSuchElementException;

/** What calls make is counted: all calls of one run live in one room of some 7.3 million elements. */
public final class RoomTest {
    private static final String EIGHT = "house lines 3;person 1 2 3 temper 5;person 4 5 6 temper 4;person 7 8 9 temper 3;"
            + "person 2 4 6 temper 6;person 9 7 5 temper 7;person 3 3 3 temper 2;person 8 1 8 temper 1;person 5 0 5 temper 9;"
            + "pinches:not one=hat or two<head and three>height;bill 1 2 3;";
    private static final ThreadMXBean THREADS = (ThreadMXBean) ManagementFactory.getThreadMXBean();

    private RoomTest() {
    }

    public static void main(String[] args) {
        allCalls(Check.housed(EIGHT), 3);
        long ahead = made();
        PinchedBill x = new PinchedBill();
        long constructor = made() - ahead;
        Check.due("a new object, bytes " + constructor, constructor < 14_000 * 8 ? 1 : 0, 1);

        ahead = made();
        allCalls(x, 1);
        long first = made() - ahead;
        Check.due("its first calls, bytes " + first, first < 30_000 * 8 ? 1 : 0, 1);

        ahead = made();
        for (int i = 0; i < 20; i++) {
            allCalls(x, i);
        }
        long again = made() - ahead;
        Check.due("a thousand calls more, bytes " + again, again < 20_000 * 8 ? 1 : 0, 1);
        Check.end();
    }

    private static long made() {
        return THREADS.getThreadAllocatedBytes(Thread.currentThread().getId());
    }

    private static void allCalls(PinchedBill x, int k) {
        byte[] text = Check.bytes(EIGHT);
        Check.feed(x, text);
        x.house(text.length);
        int b = k * 37 % 1000;
        x.steps(20);
        x.draft(b);
        x.send(k % 8);
        x.tray(0, 1, 8);
        x.copy(0, b);
        x.write(0, 3, -1);
        x.judge(0, 2);
        x.perform(0);
        x.winter(k, 30);
        x.undo(3);
        x.image(k % 3);
        x.restore(k % 3);
        x.ends(b);
        x.takes(b);
        x.goes(b, 99);
        x.ring(b, 10);
        x.laws();
        x.law(3);
        x.into(b);
        x.endless();
        x.longest();
        x.nearest(b);
        x.seats(b, 555, 1);
        x.hire(b);
        x.weighty(b);
        x.share(b, 2, 99);
        x.sorest(b);
        x.before(b, 9);
        x.beforeAt(b, 9, 0);
        x.seen(0);
        x.seenAt(0, 0);
        x.ask(0);
        x.both(b, 999 - b);
        x.bothIn(b, b, 9, 1);
        x.chance(b, 0);
        x.away(b);
        x.count(6);
        x.person(1, 5);
        x.pinched(b);
        x.spoken(b, 1);
        try {
            x.person(8, 0);
        } catch (NoSuchElementException e) {
            x.next();
        }
    }
}
