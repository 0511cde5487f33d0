/** Promises 19 to 28: where bills end, rings, all laws, the longest way, the nearest law. */
public final class EndsTest {
    private static final String THREE = "house lines 1;person 3;person 5 temper 5;person 2 out;bill 0;";
    private static final String UP_AND_DOWN = "house lines 1;person 9;person 9;person 9;person 9;person 0;person 0;"
            + "person 0;person 0;pinches:1=1;";
    /** The first figure goes up to 9, then down to 0, for ever; the second tells which way. */
    private static final String LONG_RING = "house lines 2;person 0 0;pinches:1=1;changes:(1-line)*(1-two*2)"
            + "+line*(one-1)*(one-2)*(one-3)*(one-4)*(one-5)*(one-6)*(one-7)*(one-8)*(one-4);";
    /** Below 5 it goes on for ever, else it goes up to 9. */
    private static final String HALF = "house lines 1;person 9;person 0;pinches:one<5 or one<9 and who=0;changes:1-who*2;";

    private EndsTest() {
    }

    public static void main(String[] args) {
        ends();
        goes();
        rings();
        allLaws();
        intoLaws();
        longest();
        nearest();
        wrongBills();
        manySpeakers();
        manyTraces();
        Check.end();
    }

    private static void ends() {
        PinchedBill x = Check.housed(THREE);
        Check.due("19: ends(0)", x.ends(0), 500);
        Check.due("19: ends(500), a law", x.ends(500), 500);
        Check.due("20: takes(0)", x.takes(0), 5);
        Check.due("20: takes(400)", x.takes(400), 1);
        Check.due("20: takes(600)", x.takes(600), 0);
        x.send(1);
        Check.due("19: by those who sit", x.ends(0), 300);
        Check.due("20: by those who sit", x.takes(0), 3);
        x.send(0);
        Check.due("19: nobody sits", x.ends(0), 0);
        Check.due("20: nobody sits", x.takes(0), 0);
        PinchedBill y = Check.housed(HALF);
        Check.due("19: for ever", y.ends(300), -1);
        Check.due("20: never", y.takes(300), -1);
        Check.due("19: HALF ends(500)", y.ends(500), 900);
        Check.due("20: HALF takes(500)", y.takes(500), 4);
        y.draft(300);
        y.steps(1);
        Check.due("19: as drafted now, whoever spoke", y.ends(400), 900);
        Check.due("19: the bill stays", y.bill(), 400);
        Check.due("19: who spoke stays", y.spoke(), 0);
    }

    private static void goes() {
        PinchedBill x = Check.housed(THREE);
        Check.due("21: goes(0, 0)", x.goes(0, 0), 0);
        Check.due("21: goes(0, 4)", x.goes(0, 4), 400);
        Check.due("21: goes(0, 5)", x.goes(0, 5), 500);
        Check.due("21: goes(0, 6)", x.goes(0, 6), 500);
        Check.due("21: goes(0, 9999)", x.goes(0, 9999), 500);
        Check.dueThrow("21: goes(0, -1)", IllegalArgumentException.class, () -> x.goes(0, -1));
        Check.dueThrow("21: goes(0, 10000)", IllegalArgumentException.class, () -> x.goes(0, 10000));
        PinchedBill y = Check.housed(UP_AND_DOWN);
        Check.due("21: round, 4", y.goes(0, 4), 400);
        Check.due("21: round, 9999 (7 behind a whole round)", y.goes(0, 9999), 100);
        Check.due("21: round, 9996", y.goes(0, 9996), 400);
    }

    private static void rings() {
        PinchedBill x = Check.housed(UP_AND_DOWN);
        Check.due("22: length", x.ring(0, 0), 8);
        Check.due("22: begins", x.ring(0, 1), 1);
        int[] due = {100, 200, 300, 400, 300, 200, 100, 0, -1, -1};
        for (int k = 0; k < 10; k++) {
            Check.due("22: bill " + k, x.ring(0, 10 + k), due[k]);
        }
        PinchedBill y = Check.housed(LONG_RING);
        Check.due("22: a long one's length", y.ring(0, 0), 21);
        Check.due("22: a long one begins", y.ring(0, 1), 1);
        Check.due("22: its first", y.ring(0, 10), 100);
        Check.due("22: its ninth", y.ring(0, 18), 900);
        Check.due("22: its tenth", y.ring(0, 19), 910);
        Check.due("22: from far off: 4 down, then the second figure from 9 to 2", y.ring(490, 1), 4 + 7);
        for (int no : new int[] {-1, 2, 9, 20, Integer.MAX_VALUE, Integer.MIN_VALUE}) {
            Check.dueThrow("22: ring(0, " + no + ")", IllegalArgumentException.class, () -> y.ring(0, no));
        }
        PinchedBill z = Check.housed(THREE);
        Check.due("22: it ends", z.ring(0, 0), -1);
        Check.due("22: it ends", z.ring(0, 1), -1);
        Check.due("22: it ends", z.ring(0, 10), -1);
        PinchedBill still = Check.housed("house lines 1;person 4;pinches:1=1;");
        Check.due("22: a ring of one", still.ring(400, 0), 1);
        Check.due("22: begins behind the first step", still.ring(400, 1), 1);
        Check.due("22: is the bill itself", still.ring(400, 10), 400);
        Check.due("22: no more", still.ring(400, 11), -1);
        Check.due("22: behind as few steps as can be", still.ring(0, 1), 4);
    }

    private static void allLaws() {
        PinchedBill x = Check.housed(THREE);
        Check.due("23: laws()", x.laws(), 5);
        Check.due("24: law(0)", x.law(0), 500);
        Check.due("24: law(3)", x.law(3), 800);
        Check.due("24: law(4)", x.law(4), 900);
        Check.due("24: law(5)", x.law(5), -1);
        Check.due("24: law(most)", x.law(Integer.MAX_VALUE), -1);
        Check.dueThrow("24: law(-1)", IllegalArgumentException.class, () -> x.law(-1));
        x.send(1);
        Check.due("23: by those who sit", x.laws(), 7);
        Check.due("24: by those who sit", x.law(0), 300);
        PinchedBill y = Check.housed("house lines 2;person 1 1;pinches:not one*10+two=77;");
        Check.due("23: one of 100", y.laws(), 1);
        Check.due("24: that one", y.law(0), 770);
        Check.due("23: none", Check.housed(UP_AND_DOWN).laws(), 0);
        Check.due("24: none", Check.housed(UP_AND_DOWN).law(0), -1);
        Check.due("23: all of 1000", Check.housed("house lines 3;").laws(), 1000);
    }

    private static void intoLaws() {
        PinchedBill x = Check.housed(THREE);
        Check.due("25: into(500)", x.into(500), 6);
        Check.due("25: into(600), itself", x.into(600), 1);
        Check.due("25: into(400), no law", x.into(400), 0);
        Check.due("26: endless()", x.endless(), 0);
        x.send(1);
        Check.due("25: by those who sit", x.into(300), 4);
        x.undo(1);
        Check.due("25: undone", x.into(300), 0);
        PinchedBill y = Check.housed(HALF);
        Check.due("25: HALF into(900)", y.into(900), 6);
        Check.due("25: HALF into(0), in a ring", y.into(0), 0);
        Check.due("26: HALF endless()", y.endless(), 4);
        y.send(1);
        Check.due("26: one is sent", y.endless(), 0);
        Check.due("26: all", Check.housed(LONG_RING).endless(), 100);
        Check.tell(y, "house lines 1;person 9;");
        Check.due("25: another house", y.into(900), 10);
    }

    private static void longest() {
        PinchedBill x = Check.housed(THREE);
        Check.due("27: longest()", x.longest(), 0);
        Check.due("27: HALF", Check.housed(HALF).longest(), 400);
        Check.due("27: none ends", Check.housed(UP_AND_DOWN).longest(), -1);
        Check.due("27: all are laws, the first", Check.housed("house lines 2;").longest(), 0);
        PinchedBill y = Check.housed("house lines 2;person 0 0;pinches:one>0;");
        Check.due("27: the first of those from 9", y.longest(), 900);
    }

    private static void nearest() {
        PinchedBill x = Check.housed("house lines 3;person 0 0 0;pinches:not [one+two+three=9 and one*two=0];");
        Check.due("28: itself", x.nearest(9), 9);
        Check.due("28: the first of like ones", x.nearest(0), 9);
        Check.due("28: one apart", x.nearest(800), 801);
        Check.due("28: the first of those six apart", x.nearest(333), 36);
        Check.due("28: none", Check.housed(UP_AND_DOWN).nearest(0), -1);
        PinchedBill y = Check.housed("house lines 1;person 0;pinches:not [one=2 or one=6];");
        Check.due("28: below", y.nearest(300), 200);
        Check.due("28: between, the first", y.nearest(400), 200);
        Check.due("28: above", y.nearest(500), 600);
        PinchedBill z = Check.housed("house lines 2;person 0 0;pinches:not [one=0 and two=9 or one=1 and two=0];");
        Check.due("28: by figures, not by numbers", z.nearest(0), 100);
        Check.due("28: by figures, not by numbers", z.nearest(80), 90);
    }

    /** Other bills with other speakers are no ring. */
    private static void manySpeakers() {
        String up = "person 0 0 9;";
        for (int people = 1; people <= 8; people++) {
            PinchedBill x = Check.housed("house lines 3;" + up.repeat(people) + "pinches:three<9;");
            Check.due("19: by " + people, x.ends(0), 9);
            Check.due("20: by " + people, x.takes(0), 9);
        }
        PinchedBill y = Check.housed("house lines 3;person 9 9 9;person 9 9 9;person 0 0 0;pinches:one<9 or two<9 or three<9;");
        Check.due("19: two up, one down", y.ends(0), 999);
        Check.due("20: two up, one down", y.takes(0), 7 * 3 + 2);
    }

    /** So many as no row of marks has room for without being cleared. */
    private static void manyTraces() {
        PinchedBill x = Check.housed("house lines 3;person 9 0 0;person 0 0 0;pinches:one<5 or one<9 and who=0;");
        int wrong = 0;
        for (int i = 0; i < 240; i++) {
            int many = i % 2 == 0 ? x.send(1) : x.call(1);
            wrong += x.endless() == (many == 1 ? 0 : 400) ? 0 : 1;
        }
        Check.due("26: 240 times all bills", wrong, 0);
        Check.due("22: then", x.ring(0, 0), 2);
        Check.due("22: then", x.ring(0, 1), 1);
    }

    private static void wrongBills() {
        PinchedBill x = Check.housed("house lines 2;person 1 1;");
        for (int no : new int[] {-1, -10, 1, 999, 1000, Integer.MIN_VALUE, Integer.MAX_VALUE}) {
            Check.dueThrow("19: " + no, IllegalArgumentException.class, () -> x.ends(no));
            Check.dueThrow("20: " + no, IllegalArgumentException.class, () -> x.takes(no));
            Check.dueThrow("21: " + no, IllegalArgumentException.class, () -> x.goes(no, 1));
            Check.dueThrow("22: " + no, IllegalArgumentException.class, () -> x.ring(no, 0));
            Check.dueThrow("25: " + no, IllegalArgumentException.class, () -> x.into(no));
            Check.dueThrow("28: " + no, IllegalArgumentException.class, () -> x.nearest(no));
        }
    }
}
