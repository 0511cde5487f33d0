import java.util.NoSuchElementException;

/** Edges of promises 34 to 38: how long ago, how many were seen, which place to ask for. */
public final class PastEdgesTest {
    private static final String THREE = "house lines 1;person 3;person 5 temper 5;person 2 out;bill 0;";
    private static final String FOR_EVER = "house lines 1;person 9;person 0;pinches:1=1;bill 4;";
    private static final int[] FAR = {Integer.MIN_VALUE, Integer.MIN_VALUE + 1, Integer.MAX_VALUE - 1, Integer.MAX_VALUE};

    private PastEdgesTest() {
    }

    public static void main(String[] args) {
        howLongAgo();
        theOnesBefore();
        howManySeen();
        lawsStay();
        wrongSeen();
        theOnesSeen();
        ask();
        Edge.end(34, 38);
    }

    private static void howLongAgo() {
        Edge.of(34, "How many BILLS are a told one in n STEPS (0 to 99). IllegalArgumentException: also n.");
        PinchedBill x = Check.housed(LongWay.text("one<8"));
        Edge.due("0 steps: itself", x.before(55, 0), 1);
        Edge.due("1 step leaves it", x.before(55, 1), 1);
        Edge.due("7 steps leave it", x.before(0, 7), 1);
        Edge.due("8 steps don't: nothing becomes 0", x.before(0, 8), 0);
        Edge.due("95 steps: eleven and the law itself", x.before(800, 95), 12);
        Edge.due("96 steps: twelve and the law itself", x.before(800, 96), 13);
        Edge.due("99 steps: twelve and the law itself", x.before(800, 99), 13);
        Edge.due("another law: itself alone", x.before(999, 99), 1);
        PinchedBill y = Check.housed("house lines 3;person 9 9 9;pinches:one+two+three<27;");
        Edge.due("all 1000", y.before(999, 9), 1000);
        Edge.due("all but those with a 0", y.before(999, 8), 729);
        for (int n : new int[] {-1, 100, 101, FAR[0], FAR[1], FAR[2], FAR[3]}) {
            Edge.dueThrow("before(999, " + n + ")", IllegalArgumentException.class, () -> y.before(999, n));
        }
        for (int b : new int[] {-1, 1000, FAR[0], FAR[3]}) {
            Edge.dueThrow("before(" + b + ", 0)", IllegalArgumentException.class, () -> y.before(b, 0));
        }
        Edge.dueThrow("before(5, 0) of one line", IllegalArgumentException.class, () -> new PinchedBill().before(5, 0));
        PinchedBill ever = Check.housed(FOR_EVER);
        Edge.due("99 steps for ever: one up", ever.before(500, 99), 1);
        Edge.due("98 steps for ever: up and down", ever.before(500, 98), 1);
        Edge.due("the last is left as it is", ever.before(900, 1), 2);
    }

    private static void theOnesBefore() {
        Edge.of(35, "The k-th of them (0: the first); NONE: not so many. IllegalArgumentException: as before(), k is below 0.");
        PinchedBill x = Check.housed(LongWay.text("one<8"));
        int[] due = {700, 701, 702, 703, 704, 705, 706, 707, 708, 709, 718, 719, 800, -1, -1};
        for (int k = 0; k < due.length; k++) {
            Edge.due("beforeAt(800, 99, " + k + ")", x.beforeAt(800, 99, k), due[k]);
        }
        Edge.due("twelve changes ago", x.beforeAt(LongWay.bill(50), 99, 0), LongWay.bill(38));
        Edge.due("far above", x.beforeAt(800, 99, FAR[3]), -1);
        Edge.due("none", x.beforeAt(0, 8, 0), -1);
        Edge.due("itself", x.beforeAt(0, 0, 0), 0);
        Edge.due("itself alone", x.beforeAt(0, 0, 1), -1);
        PinchedBill y = Check.housed("house lines 3;person 9 9 9;pinches:one+two+three<27;");
        Edge.due("the last of 1000", y.beforeAt(999, 99, 999), 999);
        Edge.due("no more than 1000", y.beforeAt(999, 99, 1000), -1);
        for (int k : new int[] {-1, -2, FAR[0]}) {
            Edge.dueThrow("beforeAt(999, 9, " + k + ")", IllegalArgumentException.class, () -> y.beforeAt(999, 9, k));
        }
        for (int n : new int[] {-1, 100, FAR[0], FAR[3]}) {
            Edge.dueThrow("beforeAt(999, " + n + ", 0)", IllegalArgumentException.class, () -> y.beforeAt(999, n, 0));
        }
        Edge.dueThrow("beforeAt(1000, 0, 0)", IllegalArgumentException.class, () -> y.beforeAt(1000, 0, 0));
    }

    private static void howManySeen() {
        Edge.of(Edge.TERMS, "(1 to 8 numbers: BILLS in 0, 1, 2 .. STEPS; a LAW stays; NONE: not seen)");
        PinchedBill x = Check.housed(THREE);
        for (int many = 1; many <= 8; many++) {
            long[] numbers = new long[many];
            java.util.Arrays.fill(numbers, -1);
            Check.fillTray(x, 0, 1, numbers);
            Edge.due("nothing is seen in " + many, x.seen(0), 10);
            numbers[many - 1] = 500;
            Check.fillTray(x, 1, 1, numbers);
            Edge.due("500 is seen in " + (many - 1), x.seen(1), Math.min(many, 6));
            numbers[0] = 900;
            Check.fillTray(x, 2, 1, numbers);
            Edge.due("900 at first", x.seen(2), many == 1 ? 1 : 0);
        }
        Edge.of(36, "SEEN: how many BILLS.");
        Check.fillTray(x, 0, 2, 100, 200, 300);
        Edge.due("all seen, it is so", x.seen(0), 1);
        x.write(0, 2, 400);
        Edge.due("all seen, it isn't so", x.seen(0), 0);
        PinchedBill all = Check.housed("house lines 3;");
        Check.fillTray(all, 0, 0, -1);
        Edge.due("all 1000", all.seen(0), 1000);
        Edge.due("the last of 1000", all.seenAt(0, 999), 999);
        Edge.due("no more", all.seenAt(0, 1000), -1);
    }

    private static void lawsStay() {
        Edge.of(Edge.TERMS, "a LAW stays; NONE: not seen): BILLS that, DRAFTED, look so.");
        PinchedBill x = Check.housed(THREE);
        Check.fillTray(x, 0, 1, 700, 700, 700, 700, 700, 700, 700, 700);
        Edge.due("a law eight times", x.seen(0), 1);
        x.write(0, 7, 600);
        Edge.due("a law doesn't change", x.seen(0), 0);
        Check.fillTray(x, 1, 1, 400, 500, 500, 500);
        Edge.due("it becomes one", x.seen(1), 1);
        x.steps(1);
        Edge.due("whoever spoke", x.seen(1), 1);
        x.send(1);
        Edge.due("by those who sit 400 is a law", x.seen(1), 0);
    }

    private static void wrongSeen() {
        Edge.of(36, "IllegalArgumentException: not 1 to 8 numbers, one is no such BILL nor NONE (as below).");
        PinchedBill x = Check.housed(THREE);
        for (int many : new int[] {0, 9, 10, 30}) {
            x.tray(0, 3, many);
            Edge.dueThrow("seen, " + many + " numbers", IllegalArgumentException.class, () -> x.seen(0));
            Edge.dueThrow("seenAt, " + many + " numbers", IllegalArgumentException.class, () -> x.seenAt(0, 0));
            Edge.dueThrow("ask, " + many + " numbers", IllegalArgumentException.class, () -> x.ask(0));
        }
        for (long v : new long[] {-2, 1, 10, 50, 999, 1000, 1100, FAR[0], FAR[3], (1L << 32) - 1, 1L << 32, (1L << 32) + 100,
            Long.MIN_VALUE, Long.MAX_VALUE}) {
            Check.fillTray(x, 1, 3, -1, v, -1);
            Edge.dueThrow("seen, " + v, IllegalArgumentException.class, () -> x.seen(1));
            Edge.dueThrow("seenAt, " + v, IllegalArgumentException.class, () -> x.seenAt(1, 0));
            Edge.dueThrow("ask, " + v, IllegalArgumentException.class, () -> x.ask(1));
        }
        Check.fillTray(x, 2, 3, 900, 0, 0, 0, 0, 0, 0, 5);
        Edge.dueThrow("the last of eight, though nothing looks so", IllegalArgumentException.class, () -> x.seen(2));
        PinchedBill two = Check.housed("house lines 2;");
        Check.fillTray(two, 0, 3, 990);
        Edge.due("two lines: 990", two.seen(0), 1);
        two.write(0, 0, 999);
        Edge.dueThrow("two lines: 999", IllegalArgumentException.class, () -> two.seen(0));
    }

    private static void theOnesSeen() {
        Edge.of(37, "The k-th of them; NONE: not so many. IllegalArgumentException: also k is below 0.");
        PinchedBill x = Check.housed(THREE);
        Check.fillTray(x, 0, 1, -1, -1, -1, 500);
        int[] due = {200, 300, 400, 500, -1, -1};
        for (int k = 0; k < due.length; k++) {
            Edge.due("seenAt(0, " + k + ")", x.seenAt(0, k), due[k]);
        }
        Edge.due("far above", x.seenAt(0, FAR[3]), -1);
        for (int k : new int[] {-1, -2, FAR[0]}) {
            Edge.dueThrow("seenAt(0, " + k + ")", IllegalArgumentException.class, () -> x.seenAt(0, k));
        }
        Check.fillTray(x, 1, 1, 0, 900);
        Edge.due("none", x.seenAt(1, 0), -1);
        Edge.dueThrow("none, k below 0", IllegalArgumentException.class, () -> x.seenAt(1, -1));
        for (int t : new int[] {-1, 4, FAR[0], FAR[3]}) {
            Edge.dueThrow("seenAt(" + t + ", 0)", NoSuchElementException.class, () -> x.seenAt(t, 0));
            Edge.dueThrow("seen(" + t + ")", NoSuchElementException.class, () -> x.seen(t));
            Edge.dueThrow("ask(" + t + ")", NoSuchElementException.class, () -> x.ask(t));
        }
    }

    private static void asks(int due, long... numbers) {
        PinchedBill x = Check.housed(THREE);
        Check.fillTray(x, 3, 2, numbers);
        Edge.due("ask of " + java.util.Arrays.toString(numbers), x.ask(3), due);
    }

    private static void ask() {
        Edge.of(38, "by which the greatest number of these that are one and the same BILL then is least, the first; "
                + "NONE: there are none, all are seen.");
        asks(0, -1);
        asks(0, -1, -1, -1, -1, -1, -1, -1, -1);
        asks(0, -1, 500);
        asks(0, -1, -1, -1, -1, -1, -1, -1, 500);
        asks(1, 300, -1);
        asks(1, 300, -1, -1, 500);
        asks(2, 300, 400, -1, 500, -1);
        asks(7, 300, 400, 500, 500, 500, 500, 500, -1);
        asks(-1, 300);
        asks(-1, 300, 400, 500, 500, 500, 500, 500, 500);
        asks(-1, 300, 400, 400, -1);
        asks(-1, -1, 100, 900);
        asks(-1, 300, 300);
        asks(0, -1, 100, 200);
    }
}
