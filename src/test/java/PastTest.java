import java.util.NoSuchElementException;

/** Promises 34 to 38: what it was some steps ago, what it was by what was seen, whom to look for. */
public final class PastTest {
    private static final String THREE = "house lines 1;person 3;person 5 temper 5;person 2 out;bill 0;";

    private PastTest() {
    }

    public static void main(String[] args) {
        before();
        seen();
        wrongTrays();
        ask();
        Check.end();
    }

    private static void before() {
        PinchedBill x = Check.housed(THREE);
        Check.due("34: 0 steps ago", x.before(300, 0), 1);
        Check.due("34: 1 step ago", x.before(300, 1), 1);
        Check.due("34: a law stays", x.before(500, 3), 4);
        Check.due("34: 99 steps", x.before(500, 99), 6);
        Check.due("34: none", x.before(0, 1), 0);
        Check.due("35: the first", x.beforeAt(500, 3, 0), 200);
        Check.due("35: the last", x.beforeAt(500, 3, 3), 500);
        Check.due("35: no more", x.beforeAt(500, 3, 4), -1);
        Check.due("35: far above", x.beforeAt(500, 3, Integer.MAX_VALUE), -1);
        Check.due("35: none", x.beforeAt(0, 1, 0), -1);
        Check.dueThrow("34: n 100", IllegalArgumentException.class, () -> x.before(500, 100));
        Check.dueThrow("34: n -1", IllegalArgumentException.class, () -> x.before(500, -1));
        Check.dueThrow("34: bill", IllegalArgumentException.class, () -> x.before(5, 1));
        Check.dueThrow("35: n 100", IllegalArgumentException.class, () -> x.beforeAt(500, 100, 0));
        Check.dueThrow("35: n -1", IllegalArgumentException.class, () -> x.beforeAt(500, -1, 0));
        Check.dueThrow("35: bill", IllegalArgumentException.class, () -> x.beforeAt(5, 1, 0));
        Check.dueThrow("35: k", IllegalArgumentException.class, () -> x.beforeAt(500, 1, -1));
        x.send(1);
        Check.due("34: by those who sit", x.before(300, 1), 2);
        PinchedBill y = Check.housed("house lines 1;person 9;person 0;pinches:1=1;");
        Check.due("34: in rings", y.before(500, 99), 1);
        Check.due("35: in rings: up and down", y.beforeAt(500, 99, 0), 400);
    }

    private static void seen() {
        PinchedBill x = Check.housed(THREE);
        Check.fillTray(x, 0, 1, -1, 300);
        Check.due("36: by the second", x.seen(0), 1);
        Check.due("37: that one", x.seenAt(0, 0), 200);
        Check.due("37: no more", x.seenAt(0, 1), -1);
        Check.fillTray(x, 0, 3, -1, -1, -1, 500, -1);
        Check.due("36: by the fourth", x.seen(0), 4);
        Check.due("37: the first", x.seenAt(0, 0), 200);
        Check.due("37: the fourth", x.seenAt(0, 3), 500);
        Check.due("37: no fifth", x.seenAt(0, 4), -1);
        Check.due("37: far above", x.seenAt(0, Integer.MAX_VALUE), -1);
        Check.fillTray(x, 0, 2, 200, -1, 400, 500, 500, 500, 500, 500);
        Check.due("36: eight numbers, a law stays", x.seen(0), 1);
        Check.fillTray(x, 0, 2, 200, -1, 300);
        Check.due("36: nothing looks so", x.seen(0), 0);
        Check.due("37: nothing looks so", x.seenAt(0, 0), -1);
        Check.fillTray(x, 0, 0, -1);
        Check.due("36: not seen at all", x.seen(0), 10);
        Check.fillTray(x, 0, 0, 100, -1);
        Check.due("36: numbers of 8 bits", x.seen(0), 1);
    }

    private static void wrongTrays() {
        PinchedBill x = Check.housed(THREE);
        Check.dueThrow("36: no such tray", NoSuchElementException.class, () -> x.seen(4));
        Check.dueThrow("37: no such tray", NoSuchElementException.class, () -> x.seenAt(-1, -1));
        Check.dueThrow("38: no such tray", NoSuchElementException.class, () -> x.ask(4));
        Check.dueThrow("36: missing", IllegalStateException.class, () -> x.seen(1));
        Check.dueThrow("37: missing", IllegalStateException.class, () -> x.seenAt(1, -1));
        Check.dueThrow("38: missing", IllegalStateException.class, () -> x.ask(1));
        long[][] wrong = {{}, {0, 0, 0, 0, 0, 0, 0, 0, 0}, {1}, {0, 10}, {0, -2}, {1000}, {(1L << 32) - 1},
            {1L << 32}, {Long.MIN_VALUE}};
        for (long[] w : wrong) {
            Check.fillTray(x, 2, 3, w);
            Check.dueThrow("36: wrong numbers", IllegalArgumentException.class, () -> x.seen(2));
            Check.dueThrow("37: wrong numbers", IllegalArgumentException.class, () -> x.seenAt(2, 0));
            Check.dueThrow("38: wrong numbers", IllegalArgumentException.class, () -> x.ask(2));
        }
        Check.fillTray(x, 3, 1, 100);
        Check.dueThrow("37: k", IllegalArgumentException.class, () -> x.seenAt(3, -1));
    }

    private static void ask() {
        PinchedBill x = Check.housed(THREE);
        Check.fillTray(x, 0, 1, -1, -1, 500);
        Check.due("38: at first all differ", x.ask(0), 0);
        Check.fillTray(x, 0, 1, 300, -1, 500, -1);
        Check.due("38: like ones, the first place", x.ask(0), 1);
        Check.fillTray(x, 0, 1, 300, 400, -1);
        Check.due("38: the only place", x.ask(0), 2);
        Check.fillTray(x, 0, 1, 300, 400, 500);
        Check.due("38: all are seen", x.ask(0), -1);
        Check.fillTray(x, 0, 1, 300, -1, 900);
        Check.due("38: there are none", x.ask(0), -1);
        Check.fillTray(x, 0, 1, -1);
        Check.due("38: nothing is seen", x.ask(0), 0);
    }
}
