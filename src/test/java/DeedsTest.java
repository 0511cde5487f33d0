import java.util.NoSuchElementException;

/** Promises 11 to 18: steps, drafts, people sent and called, undoing, told deeds, winters. */
public final class DeedsTest {
    private static final String THREE = "house lines 1;person 3;person 5 temper 5;person 2 out;bill 0;";
    private static final String EIGHT = "house lines 3;person 9 9 9;person 9 9 9;person 9 9 9;person 9 9 9;"
            + "person 9 9 9;person 9 9 9;person 9 9 9;person 9 9 9;";

    private DeedsTest() {
    }

    public static void main(String[] args) {
        steps();
        staying();
        drafts();
        seatsChanged();
        undoing();
        judging();
        performing();
        winters();
        Check.end();
    }

    private static void steps() {
        PinchedBill x = Check.housed(THREE);
        Check.due("11: steps(1)", x.steps(1), 1);
        Check.due("11: the first pinched speaks", x.spoke(), 0);
        Check.due("11: steps(2)", x.steps(2), 2);
        Check.due("11: bill", x.bill(), 300);
        Check.due("11: spoke", x.spoke(), 0);
        Check.due("11: steps(999) till a law", x.steps(999), 2);
        Check.due("11: bill", x.bill(), 500);
        Check.due("11: spoke", x.spoke(), 1);
        Check.due("11: a law stays", x.steps(3), 0);
        Check.due("11: each call is a deed", x.count(6), 4);
        for (int no : new int[] {0, -1, 1000, Integer.MIN_VALUE, Integer.MAX_VALUE}) {
            Check.dueThrow("11: steps(" + no + ")", IllegalArgumentException.class, () -> x.steps(no));
        }
        Check.due("11: a throw is no deed", x.count(6), 4);
    }

    private static void staying() {
        PinchedBill x = Check.housed("house lines 1;person 4;pinches:1=1;bill 4;");
        Check.due("11: a step may leave all as it was", x.steps(999), 999);
        Check.due("11: bill", x.bill(), 400);
        Check.due("11: but somebody spoke", x.spoke(), 0);
    }

    private static void drafts() {
        PinchedBill x = Check.housed(THREE);
        x.steps(1);
        Check.due("12: draft", x.draft(700), 100);
        Check.due("12: bill", x.bill(), 700);
        Check.due("12: nobody spoke", x.spoke(), -1);
        for (int no : new int[] {710, 701, 1000, -1, -100, Integer.MIN_VALUE, Integer.MAX_VALUE}) {
            Check.due("12: draft(" + no + ")", x.draft(no), -1);
        }
        Check.due("12: nothing happens", x.bill(), 700);
        Check.due("12: deeds", x.count(6), 2);
        Check.due("12: the same again", x.draft(700), 700);
        Check.due("12: is a deed", x.count(6), 3);
    }

    private static void seatsChanged() {
        PinchedBill x = Check.housed(THREE);
        x.steps(1);
        Check.due("13: send(0)", x.send(0), 1);
        Check.due("13: who sits", x.count(3), 2);
        Check.due("13: spoke stays", x.spoke(), 0);
        Check.due("13: bill stays", x.bill(), 100);
        Check.due("13: send(0) again", x.send(0), -2);
        Check.due("13: send(2), who is out", x.send(2), -2);
        Check.due("13: send(3)", x.send(3), -1);
        Check.due("13: send(-1)", x.send(-1), -1);
        Check.due("13: send(1000)", x.send(1000), -1);
        Check.due("13: send(least)", x.send(Integer.MIN_VALUE), -1);
        Check.due("13: send(most)", x.send(Integer.MAX_VALUE), -1);
        Check.due("14: call(2)", x.call(2), 2);
        Check.due("14: who sits", x.count(3), 6);
        Check.due("14: call(2) again", x.call(2), -2);
        Check.due("14: call(1), who sits", x.call(1), -2);
        Check.due("14: call(3)", x.call(3), -1);
        Check.due("14: call(-1)", x.call(-1), -1);
        Check.due("14: call(8)", x.call(8), -1);
        Check.due("14: call(least)", x.call(Integer.MIN_VALUE), -1);
        Check.due("14: call(most)", x.call(Integer.MAX_VALUE), -1);
        Check.due("14: only what happened is a deed", x.count(6), 3);
    }

    private static void undoing() {
        PinchedBill x = Check.housed(THREE);
        x.steps(2);
        x.send(0);
        x.draft(900);
        x.call(2);
        Check.dueThrow("15: undo(0)", IllegalArgumentException.class, () -> x.undo(0));
        Check.dueThrow("15: undo(-1)", IllegalArgumentException.class, () -> x.undo(-1));
        Check.dueThrow("15: undo(5) of 4", IllegalArgumentException.class, () -> x.undo(5));
        Check.due("15: undo(1)", x.undo(1), 3);
        Check.due("15: the call is undone", x.count(3), 2);
        Check.due("15: bill", x.bill(), 900);
        Check.due("15: undo(2)", x.undo(2), 1);
        Check.due("15: bill", x.bill(), 200);
        Check.due("15: spoke", x.spoke(), 1);
        Check.due("15: who sits", x.count(3), 3);
        Check.due("15: undo(1)", x.undo(1), 0);
        Check.due("15: bill", x.bill(), 0);
        Check.due("15: spoke", x.spoke(), -1);
        Check.dueThrow("15: none left", IllegalArgumentException.class, () -> x.undo(1));
        for (int i = 0; i < 12; i++) {
            x.draft(i % 10 * 100);
        }
        Check.due("15: ten at most", x.count(6), 10);
        Check.dueThrow("15: undo(11)", IllegalArgumentException.class, () -> x.undo(11));
        Check.due("15: undo(10)", x.undo(10), 0);
        Check.due("15: the eldest are forgotten", x.bill(), 100);
    }

    private static void judging() {
        PinchedBill x = Check.housed(THREE);
        x.steps(1);
        Check.dueThrow("16: tray -1", NoSuchElementException.class, () -> x.judge(-1, 0));
        Check.dueThrow("16: tray 4", NoSuchElementException.class, () -> x.judge(4, 9));
        Check.dueThrow("16: missing", IllegalStateException.class, () -> x.judge(1, 9));
        Check.fillTray(x, 1, 1, -1, 1000, -1, -1, 2002, 1000, 0, -1);
        Check.dueThrow("16: what -1", IllegalArgumentException.class, () -> x.judge(1, -1));
        Check.dueThrow("16: what 4", IllegalArgumentException.class, () -> x.judge(1, 4));
        Check.due("16: the first that can't be", x.judge(1, 0), 5);
        Check.due("16: why", x.judge(1, 1), 2);
        Check.due("16: the bill then", x.judge(1, 2), 400);
        Check.due("16: who sits then", x.judge(1, 3), 6);
        Check.due("16: nothing is done: bill", x.bill(), 100);
        Check.due("16: nothing is done: spoke", x.spoke(), 0);
        Check.due("16: nothing is done: who sits", x.count(3), 3);
        Check.due("16: nothing is done: deeds", x.count(6), 1);
        Check.fillTray(x, 0, 3);
        Check.due("16: no deeds, all can be", x.judge(0, 0), -1);
        Check.due("16: no deeds, why", x.judge(0, 1), 0);
        Check.due("16: no deeds, the bill", x.judge(0, 2), 100);
        Check.due("16: no deeds, who sits", x.judge(0, 3), 3);
        long[][] toldAndWhy = {{0, 0}, {900, 0}, {901, 1}, {990, 1}, {999, 1}, {1000, 0}, {1002, 2}, {1003, 1}, {1999, 1},
            {2000, 2}, {2002, 0}, {2003, 1}, {2999, 1}, {3000, 1}, {-1, 0}, {-2, 1}, {Long.MAX_VALUE, 1}, {Long.MIN_VALUE, 1},
            {(1L << 32) + 100, 1}, {(1L << 32) - 1, 1}};
        for (long[] t : toldAndWhy) {
            Check.fillTray(x, 2, 3, t[0]);
            Check.due("16: why of " + t[0], x.judge(2, 1), t[1]);
            Check.due("16: place of " + t[0], x.judge(2, 0), t[1] == 0 ? -1 : 0);
        }
    }

    private static void performing() {
        PinchedBill x = Check.housed(THREE);
        Check.dueThrow("17: no such tray", NoSuchElementException.class, () -> x.perform(4));
        Check.dueThrow("17: missing", IllegalStateException.class, () -> x.perform(0));
        Check.fillTray(x, 0, 1, 900, -1, 100, -1, 1001, -1, -1, 50, -1);
        Check.due("17: perform", x.perform(0), 7);
        Check.due("17: bill: a law stays", x.bill(), 300);
        Check.due("17: spoke", x.spoke(), 0);
        Check.due("17: who sits", x.count(3), 1);
        Check.due("17: each a deed", x.count(6), 7);
        x.undo(1);
        Check.due("17: undone by one", x.bill(), 300);
        x.undo(1);
        Check.due("17: undone by two", x.bill(), 200);
        Check.fillTray(x, 3, 0);
        Check.due("17: nothing told", x.perform(3), 0);
        Check.due("17: nothing done", x.count(6), 5);
    }

    private static void winters() {
        // Seed 1: send 6, send 3, call 3, send 3, step, step; seed 7: draft 806, send 2, step, send 2, step.
        PinchedBill x = Check.housed(EIGHT);
        Check.due("18: winter(1, 5)", x.winter(1, 5), 5);
        Check.due("18: who sits", x.count(3), 255 - 64 - 8);
        Check.due("18: bill", x.bill(), 111);
        Check.due("18: each a deed", x.count(6), 5);
        x.undo(1);
        Check.due("18: undone", x.bill(), 0);
        PinchedBill y = Check.housed(EIGHT);
        Check.due("18: winter(7, 5), one can't be", y.winter(7, 5), 4);
        Check.due("18: bill", y.bill(), 917);
        Check.due("18: spoke", y.spoke(), 0);
        Check.due("18: who sits", y.count(3), 255 - 4);
        Check.due("18: deeds, a step at a law too", y.count(6), 4);
        PinchedBill z = Check.housed(THREE);
        Check.due("18: winter(7, 5) of one line: no bill 806, person 2 is out", z.winter(7, 5), 2);
        Check.due("18: bill", z.bill(), 200);
        // Seed -7: call 1, draft 559, step, step, step.
        Check.due("18: a seed below 0", Check.housed(EIGHT).winter(-7, 5), 4);
        Check.due("18: 30 times", new PinchedBill().winter(0, 30) > 0 ? 1 : 0, 1);
        for (int no : new int[] {0, 31, -1, Integer.MAX_VALUE}) {
            Check.dueThrow("18: winter(1, " + no + ")", IllegalArgumentException.class, () -> z.winter(1, no));
        }
    }
}
