import java.util.NoSuchElementException;

/** Edges of promises 11 to 18: how many steps, what can't be and why, what can be undone, told deeds, winters. */
public final class DeedEdgesTest {
    private static final String THREE = "house lines 1;person 3;person 5 temper 5;person 2 out;bill 0;";
    private static final String EIGHT = "house lines 3;" + "person 9 9 9;".repeat(8);
    private static final String FOR_EVER = "house lines 1;person 9;person 0;pinches:1=1;bill 4;";
    private static final int[] FAR = {Integer.MIN_VALUE, Integer.MIN_VALUE + 1, Integer.MAX_VALUE - 1, Integer.MAX_VALUE};

    private DeedEdgesTest() {
    }

    public static void main(String[] args) {
        howManySteps();
        drafts();
        sending();
        calling();
        sitsOrNot();
        undoing();
        tenAtMost();
        eachKindIsUndone();
        judged();
        toldNumbers();
        performed();
        wintersByHand();
        winterTimes();
        Edge.end(11, 18);
    }

    private static void howManySteps() {
        Edge.of(11, "n STEPS (1 to 999; a LAW stays): how many there were.");
        PinchedBill x = Check.housed(FOR_EVER);
        Edge.due("steps(1)", x.steps(1), 1);
        Edge.due("bill", x.bill(), 500);
        Edge.due("steps(999)", x.steps(999), 999);
        Edge.due("bill behind 1000 in all", x.bill(), 400);
        Edge.due("spoke behind 1000 in all", x.spoke(), 1);
        PinchedBill y = Check.housed(THREE);
        Edge.due("more than there can be", y.steps(999), 5);
        Edge.due("a law stays", y.steps(999), 0);
        Edge.due("bill", y.bill(), 500);
        Edge.due("just as many as there can be", Check.housed(THREE).steps(5), 5);
        Edge.due("no people", new PinchedBill().steps(1), 0);
        Edge.of(11, "IllegalArgumentException: n.");
        for (int n : new int[] {0, -1, 1000, FAR[0], FAR[1], FAR[2], FAR[3]}) {
            Edge.dueThrow("steps(" + n + ")", IllegalArgumentException.class, () -> x.steps(n));
        }
        Edge.due("no deeds", x.count(6), 2);
        Edge.due("no steps", x.bill(), 400);
        Edge.of(Edge.TERMS, "(That may leave all as it was.)");
        PinchedBill z = Check.housed("house lines 1;person 4;person 4;pinches:1=1;bill 4;");
        Edge.due("they are steps", z.steps(3), 3);
        Edge.due("bill", z.bill(), 400);
        Edge.due("who spoke is another", z.spoke(), 0);
    }

    private static void drafts() {
        Edge.of(12, "what it was; below 0: less why it can't be (nothing happens; as below)");
        PinchedBill x = Check.housed("house lines 2;person 9 9;bill 3 7;");
        Edge.due("draft(0)", x.draft(0), 370);
        Edge.due("draft(990)", x.draft(990), 0);
        Edge.due("draft(10)", x.draft(10), 990);
        x.steps(1);
        for (int b : new int[] {-1, -10, 1, 11, 999, 991, 1000, 1010, FAR[0], FAR[1], FAR[2], FAR[3]}) {
            Edge.due("draft(" + b + ")", x.draft(b), -1);
        }
        Edge.due("bill", x.bill(), 120);
        Edge.due("spoke", x.spoke(), 0);
        Edge.due("deeds", x.count(6), 4);
        Edge.of(Edge.TERMS, "To DRAFT: the BILL is a told one; nobody SPOKE.");
        Edge.due("the same bill", x.draft(120), 120);
        Edge.due("nobody spoke", x.spoke(), -1);
        Edge.due("a deed", x.count(6), 5);
        Edge.of(Edge.TERMS, "1 no such PERSON, BILL (each FIGURE it hasn't is 0)");
        Edge.due("two lines: 120", x.draft(120), 120);
        Edge.due("two lines: 121", x.draft(121), -1);
        Edge.due("one line: 900", new PinchedBill().draft(900), 0);
        Edge.due("one line: 910", new PinchedBill().draft(910), -1);
        Edge.due("one line: 901", new PinchedBill().draft(901), -1);
        Edge.due("three lines: 999", Check.housed("house lines 3;").draft(999), 0);
    }

    private static void sending() {
        Edge.of(13, "how many sit then");
        PinchedBill x = Check.housed(EIGHT);
        for (int p = 7; p >= 0; p--) {
            Edge.due("send(" + p + ")", x.send(p), p);
        }
        Edge.due("nobody sits", x.count(3), 0);
        Edge.of(Edge.TERMS, "2 it doesn't sit (SENT), it does (CALLED)");
        for (int p = 0; p < 8; p++) {
            Edge.due("send(" + p + ") again", x.send(p), -2);
        }
        Edge.of(Edge.TERMS, "1 no such PERSON, BILL");
        for (int p : new int[] {-1, 8, 9, 31, 32, 1000, FAR[0], FAR[1], FAR[2], FAR[3]}) {
            Edge.due("send(" + p + ")", x.send(p), -1);
        }
        Edge.due("of three: send(3)", Check.housed(THREE).send(3), -1);
        Edge.due("of none: send(0)", new PinchedBill().send(0), -1);
        Edge.due("eight deeds", x.count(6), 8);
    }

    private static void calling() {
        Edge.of(14, "how many sit then");
        PinchedBill x = Check.housed("house lines 1;" + "person 9 out;".repeat(8));
        for (int p = 7; p >= 0; p--) {
            Edge.due("call(" + p + ")", x.call(p), 8 - p);
        }
        Edge.due("all sit", x.count(3), 255);
        Edge.of(Edge.TERMS, "2 it doesn't sit (SENT), it does (CALLED)");
        for (int p = 0; p < 8; p++) {
            Edge.due("call(" + p + ") again", x.call(p), -2);
        }
        Edge.of(Edge.TERMS, "1 no such PERSON, BILL");
        for (int p : new int[] {-1, 8, 9, 31, 32, 1000, FAR[0], FAR[1], FAR[2], FAR[3]}) {
            Edge.due("call(" + p + ")", x.call(p), -1);
        }
        Edge.due("of three: call(3)", Check.housed(THREE).call(3), -1);
        Edge.due("of none: call(0)", new PinchedBill().call(0), -1);
        Edge.due("eight deeds", x.count(6), 8);
    }

    private static void sitsOrNot() {
        Edge.of(Edge.TERMS, "To SEND one out: it doesn't sit. To CALL one in: it sits.");
        PinchedBill x = Check.housed(THREE);
        x.steps(1);
        x.send(0);
        Edge.due("sent", x.person(0, 4), 0);
        Edge.due("bill stays", x.bill(), 100);
        Edge.due("who spoke stays, though it doesn't sit", x.spoke(), 0);
        x.call(2);
        Edge.due("called", x.person(2, 4), 1);
        Edge.due("bill stays", x.bill(), 100);
        Edge.due("who spoke stays", x.spoke(), 0);
        x.send(1);
        Edge.due("next", x.next(), 2);
        x.send(2);
        Edge.due("nobody sits: a law", x.next(), -1);
        x.call(0);
        Edge.due("who spoke last, called in again", x.next(), 0);
        Edge.due("six deeds", x.count(6), 6);
    }

    private static void undoing() {
        Edge.of(15, "n DEEDS are UNDONE: how many still can be.");
        PinchedBill x = Check.housed(THREE);
        for (int i = 1; i <= 10; i++) {
            x.draft(i % 10 * 100);
        }
        Edge.due("undo(1)", x.undo(1), 9);
        Edge.due("bill", x.bill(), 900);
        Edge.due("undo(8)", x.undo(8), 1);
        Edge.due("bill", x.bill(), 100);
        Edge.of(15, "IllegalArgumentException: n isn't 1 to 10, there aren't so many.");
        Edge.dueThrow("undo(2) of 1", IllegalArgumentException.class, () -> x.undo(2));
        Edge.due("bill stays", x.bill(), 100);
        Edge.due("undo(1) of 1", x.undo(1), 0);
        Edge.due("bill", x.bill(), 0);
        for (int n : new int[] {1, 2, 10, 0, -1, 11, FAR[0], FAR[3]}) {
            Edge.dueThrow("undo(" + n + ") of 0", IllegalArgumentException.class, () -> x.undo(n));
        }
        PinchedBill y = Check.housed(THREE);
        for (int i = 0; i < 9; i++) {
            y.draft(100);
        }
        Edge.dueThrow("undo(10) of 9", IllegalArgumentException.class, () -> y.undo(10));
        y.draft(100);
        for (int n : new int[] {0, -1, 11, 12, FAR[0], FAR[3]}) {
            Edge.dueThrow("undo(" + n + ") of 10", IllegalArgumentException.class, () -> y.undo(n));
        }
        Edge.due("undo(10) of 10", y.undo(10), 0);
    }

    private static void tenAtMost() {
        Edge.of(Edge.TERMS, "each can be UNDONE, the latest first, 10 at most (eldest are forgotten)");
        PinchedBill x = Check.housed(FOR_EVER);
        for (int i = 1; i <= 10; i++) {
            x.steps(1);
            Edge.due("deeds", x.count(6), i);
        }
        x.steps(999);
        Edge.due("the eleventh", x.count(6), 10);
        x.send(0);
        Edge.due("the twelfth", x.count(6), 10);
        Edge.due("undo(1)", x.undo(1), 9);
        Edge.due("who sits", x.count(3), 3);
        Edge.due("undo(1), 999 steps at once", x.undo(1), 8);
        Edge.due("bill behind ten steps", x.bill(), 400);
        Edge.due("undo(8)", x.undo(8), 0);
        Edge.due("the first two can't be undone", x.spoke(), 1);
        Edge.due("bill", x.bill(), 400);
        Edge.due("a deed then", x.draft(900), 400);
        Edge.due("deeds", x.count(6), 1);
        PinchedBill seats = Check.housed("house lines 1;" + "person 0;".repeat(8));
        for (int i = 0; i < 14; i++) {
            Edge.due("one goes, one comes", i < 8 ? seats.send(i) : seats.call(i - 8), i < 8 ? 7 - i : i - 7);
        }
        for (int i = 13; i >= 4; i--) {
            Edge.due("undo(1)", seats.undo(1), i - 4);
            Edge.due("who sat then", seats.count(3), i < 8 ? 255 & -1 << i : (1 << i - 8) - 1);
        }
        PinchedBill spoken = Check.housed("house lines 1;" + "person 0;".repeat(8) + "pinches:1=1;");
        for (int i = 0; i < 14; i++) {
            spoken.steps(1);
        }
        for (int i = 13; i >= 4; i--) {
            Edge.due("undo(1)", spoken.undo(1), i - 4);
            Edge.due("who spoke then", spoken.spoke(), (i - 1) % 8);
        }
        for (int times : new int[] {10, 11, 30}) {
            PinchedBill y = new PinchedBill();
            y.tray(0, 2, times);
            Edge.due("perform " + times, y.perform(0), times);
            Edge.due("deeds", y.count(6), 10);
        }
    }

    private static void eachKindIsUndone() {
        Edge.of(Edge.TERMS, "DEEDS: STEPS of one call, a DRAFT, one SENT, CALLED");
        PinchedBill x = Check.housed(THREE);
        x.steps(3);
        x.draft(100);
        x.send(0);
        x.call(2);
        x.steps(1);
        Edge.due("now", x.bill() * 100 + x.count(3) * 10 + x.spoke(), 200 * 100 + 60 + 1);
        x.undo(1);
        Edge.due("a step", x.bill() * 100 + x.count(3) * 10 + x.spoke(), 100 * 100 + 60 - 1);
        x.undo(1);
        Edge.due("one called", x.bill() * 100 + x.count(3) * 10 + x.spoke(), 100 * 100 + 20 - 1);
        x.undo(1);
        Edge.due("one sent", x.bill() * 100 + x.count(3) * 10 + x.spoke(), 100 * 100 + 30 - 1);
        x.undo(1);
        Edge.due("a draft", x.bill() * 100 + x.count(3) * 10 + x.spoke(), 300 * 100 + 30);
        x.undo(1);
        Edge.due("three steps", x.bill() * 100 + x.count(3) * 10 + x.spoke(), 30 - 1);
        Edge.due("steps of a law are a deed", x.draft(900) + x.steps(9) + x.count(6), 2);
    }

    private static void judged() {
        Edge.of(16, "what 0: the first place that can't be (NONE), 1: why (0), 2: the BILL then, 3: who sits then, as bits");
        PinchedBill x = Check.housed(THREE);
        Check.fillTray(x, 0, 1, 2002, 100, -1);
        int[] all = {-1, 0, 200, 7};
        int[] first = {0, 2, 0, 3};
        int[] last = {2, 1, 100, 7};
        for (int what = 0; what < 4; what++) {
            Edge.due("all can be, " + what, x.judge(0, what), all[what]);
        }
        x.write(0, 0, 1002);
        for (int what = 0; what < 4; what++) {
            Edge.due("the first can't be, " + what, x.judge(0, what), first[what]);
        }
        x.write(0, 0, 2002);
        x.write(0, 2, 101);
        for (int what = 0; what < 4; what++) {
            Edge.due("the last can't be, " + what, x.judge(0, what), last[what]);
        }
        Check.fillTray(x, 1, 0);
        int[] none = {-1, 0, 0, 3};
        for (int what = 0; what < 4; what++) {
            Edge.due("nothing is told, " + what, x.judge(1, what), none[what]);
        }
        Check.fillTray(x, 2, 1, 1000, 1000, 1001, 2000);
        int[] twice = {1, 2, 0, 2};
        for (int what = 0; what < 4; what++) {
            Edge.due("sent twice, " + what, x.judge(2, what), twice[what]);
        }
        long[] thirty = new long[30];
        java.util.Arrays.fill(thirty, -1);
        thirty[29] = 3000;
        Check.fillTray(x, 3, 2, thirty);
        int[] full = {29, 1, 500, 3};
        for (int what = 0; what < 4; what++) {
            Edge.due("thirty are told, " + what, x.judge(3, what), full[what]);
        }
        Edge.due("nothing was done", x.bill() * 100 + x.count(6) * 10 + x.count(3), 3);
        Edge.of(16, "no such TRAY (as below); IllegalStateException: it is MISSING (as below); IllegalArgumentException: another what.");
        for (int t : new int[] {-1, 4, FAR[0], FAR[3]}) {
            Edge.dueThrow("judge(" + t + ", 0)", NoSuchElementException.class, () -> x.judge(t, 0));
        }
        for (int what : new int[] {-1, 4, 10, FAR[0], FAR[3]}) {
            Edge.dueThrow("judge(0, " + what + ")", IllegalArgumentException.class, () -> x.judge(0, what));
        }
        Edge.dueThrow("missing", IllegalStateException.class, () -> new PinchedBill().judge(3, 3));
    }

    private static void toldNumbers() {
        Edge.of(Edge.TERMS, "0 to 999: BILL v is DRAFTED; 1000 and p: SENT; 2000 and p: CALLED (p 0 to 999); "
                + "NONE: a STEP (a LAW stays); others: 1.");
        PinchedBill x = Check.housed("house lines 3;" + "person 9 9 9;".repeat(7) + "person 9 9 9 out;");
        long[][] toldWhyBillSits = {{0, 0, 0, 127}, {999, 0, 999, 127}, {1000, 0, 0, 126}, {1006, 0, 0, 63}, {1007, 2, 0, 127},
            {1008, 1, 0, 127}, {1999, 1, 0, 127}, {2000, 2, 0, 127}, {2006, 2, 0, 127}, {2007, 0, 0, 255}, {2008, 1, 0, 127},
            {2999, 1, 0, 127}, {3000, 1, 0, 127}, {3007, 1, 0, 127}, {-1, 0, 111, 127}, {-2, 1, 0, 127}, {-1000, 1, 0, 127},
            {Long.MAX_VALUE, 1, 0, 127}, {Long.MIN_VALUE, 1, 0, 127}, {1L << 32, 1, 0, 127}, {(1L << 32) + 1000, 1, 0, 127},
            {(1L << 32) - 1, 1, 0, 127}, {-1L << 32, 1, 0, 127}, {(1L << 31), 1, 0, 127}};
        for (long[] t : toldWhyBillSits) {
            Check.fillTray(x, 0, 3, t[0]);
            Edge.due("why of " + t[0], x.judge(0, 1), t[1]);
            Edge.due("place of " + t[0], x.judge(0, 0), t[1] == 0 ? -1 : 0);
            Edge.due("bill behind " + t[0], x.judge(0, 2), t[2]);
            Edge.due("who sits behind " + t[0], x.judge(0, 3), t[3]);
        }
        PinchedBill law = Check.housed("house lines 1;person 5;bill 5;");
        Check.fillTray(law, 0, 0, -1, -1);
        Edge.due("a law stays: place", law.judge(0, 0), -1);
        Edge.due("a law stays: bill", law.judge(0, 2), 500);
        Edge.due("a law stays: they are done", law.perform(0), 2);
        Edge.due("a law stays: they are deeds", law.count(6), 2);
        Edge.due("a law stays: nobody spoke", law.spoke(), -1);
    }

    private static void performed() {
        Edge.of(17, "They are done (each a DEED), till one can't be: how many were.");
        PinchedBill x = Check.housed(THREE);
        Check.fillTray(x, 0, 1, 100, -1, 1000, 1000, 2000);
        Edge.due("perform", x.perform(0), 3);
        Edge.due("bill", x.bill(), 200);
        Edge.due("spoke", x.spoke(), 0);
        Edge.due("who sits: nothing behind it is done", x.count(3), 2);
        Edge.due("deeds", x.count(6), 3);
        Edge.due("undo(1): the sent one", x.undo(1) * 10 + x.count(3), 23);
        Edge.due("undo(1): the step", x.undo(1) * 1000 + x.bill(), 1100);
        Check.fillTray(x, 0, 1, 1000, -1);
        x.send(0);
        Edge.due("not even the first", x.perform(0), 0);
        Edge.due("no deed", x.count(6), 2);
        Check.fillTray(x, 1, 0);
        Edge.due("nothing is told", x.perform(1), 0);
        for (int t : new int[] {-1, 4, FAR[0], FAR[3]}) {
            Edge.dueThrow("perform(" + t + ")", NoSuchElementException.class, () -> x.perform(t));
        }
        Edge.dueThrow("missing", IllegalStateException.class, () -> x.perform(2));
    }

    /** Does by single calls what a winter would, and answers how many could be. */
    private static int winterByHand(PinchedBill x, int seed, int times) {
        int drawn = seed;
        int could = 0;
        for (int i = 0; i < times; i++) {
            drawn = 1103515245 * drawn + 12345;
            int sort = (drawn >>> 16) % 5;
            int answer = 0;
            if (sort <= 1) {
                x.steps(1);
            } else {
                drawn = 1103515245 * drawn + 12345;
                int draw = drawn >>> 16;
                answer = sort == 2 ? x.draft(draw % 1000) : sort == 3 ? x.send(draw % 8) : x.call(draw % 8);
            }
            could += answer >= 0 ? 1 : 0;
        }
        return could;
    }

    private static void wintersByHand() {
        Edge.of(18, "A WINTER (each a DEED): how many could be.");
        Edge.of(Edge.TERMS, "DRAW modulo 5: 0 and 1 a STEP (as told); 2 BILL DRAW modulo 1000 is DRAFTED; 3 PERSON DRAW modulo 8 is SENT; "
                + "4 CALLED; if it can be.");
        String[] houses = {"house lines 1;", THREE, FOR_EVER, EIGHT, "house lines 2;" + "person 4 6;".repeat(5) + "person 9 0 out;"};
        int[] seeds = {0, 1, 2, 3, -1, -2, 12345, -12345, 1103515245, FAR[0], FAR[1], FAR[2], FAR[3]};
        for (String text : houses) {
            for (int seed : seeds) {
                for (int times : new int[] {1, 2, 9, 30}) {
                    PinchedBill x = Check.housed(text);
                    PinchedBill y = Check.housed(text);
                    String call = "winter(" + seed + ", " + times + ") of " + text;
                    Edge.due(call, x.winter(seed, times), winterByHand(y, seed, times));
                    Edge.due("bill behind " + call, x.bill(), y.bill());
                    Edge.due("spoke behind " + call, x.spoke(), y.spoke());
                    Edge.due("who sits behind " + call, x.count(3), y.count(3));
                    Edge.due("deeds behind " + call, x.count(6), y.count(6));
                    while (y.count(6) > 0) {
                        Edge.due("undone behind " + call, x.undo(1), y.undo(1));
                        Edge.due("undone: bill", x.bill(), y.bill());
                        Edge.due("undone: who sits", x.count(3), y.count(3));
                    }
                }
            }
        }
    }

    private static void winterTimes() {
        Edge.of(Edge.TERMS, "so many times (1 to 30)");
        Edge.of(18, "IllegalArgumentException: how many times.");
        PinchedBill x = Check.housed(FOR_EVER);
        for (int times : new int[] {0, -1, 31, 32, FAR[0], FAR[1], FAR[2], FAR[3]}) {
            Edge.dueThrow("winter(7, " + times + ")", IllegalArgumentException.class, () -> x.winter(7, times));
        }
        Edge.due("no deeds", x.count(6), 0);
        Edge.due("bill", x.bill(), 400);
        // Seed 0 draws 0, a step.
        Edge.due("winter(0, 1)", x.winter(0, 1), 1);
        Edge.due("one deed", x.count(6), 1);
        Edge.due("bill", x.bill(), 500);
    }
}
