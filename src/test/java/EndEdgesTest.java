/** Edges of promises 19 to 28: laws and rings, the shortest and the longest ways, the first and the last laws. */
public final class EndEdgesTest {
    private static final String THREE = "house lines 1;person 3;person 5 temper 5;person 2 out;bill 0;";
    private static final String FOR_EVER = "house lines 1;person 9;person 0;pinches:1=1;bill 4;";
    private static final int[] FAR = {Integer.MIN_VALUE, Integer.MIN_VALUE + 1, Integer.MAX_VALUE - 1, Integer.MAX_VALUE};

    private EndEdgesTest() {
    }

    public static void main(String[] args) {
        asDraftedNow();
        endsOrNever();
        longWay();
        inSoManySteps();
        rings();
        ringsWithOthers();
        lateRing();
        ringWhat();
        laws();
        intoOne();
        endless();
        longest();
        nearest();
        Edge.end(19, 28);
    }

    private static void asDraftedNow() {
        Edge.of(Edge.TERMS, "A told BILL is gone on from as DRAFTED now, by those who sit.");
        // Drafted, 0 speaks first and it goes up; behind 0 it would be 1, and it would go down.
        PinchedBill x = Check.housed("house lines 1;person 9;person 0;pinches:one>0 and one<9;bill 5;");
        x.steps(1);
        Edge.due("who speaks next is 1", x.next(), 1);
        Edge.due("goes", x.goes(600, 1), 700);
        Edge.due("share", x.share(600, 0, 1), 1);
        Edge.due("before", x.before(600, 1), 1);
        Edge.due("beforeAt", x.beforeAt(600, 1, 0), 500);
        x.tray(0, 1, 2);
        x.copy(0, 600);
        Edge.due("copy", x.seenAt(0, 0), 600);
        Edge.due("bothIn", x.bothIn(600, 0, 1, 0), 700);
        Edge.due("ends", x.ends(800), 900);
        Edge.due("takes", x.takes(800), 1);
        Edge.due("ring", x.ring(600, 10), 700);
        Edge.due("nothing is done", x.bill() * 10 + x.spoke(), 6000);
        x.send(0);
        Edge.due("by those who sit: goes", x.goes(600, 1), 500);
        Edge.due("by those who sit: ends", x.ends(600), 0);
        Edge.due("by those who sit: takes", x.takes(600), 6);
        Edge.due("by those who sit: laws", x.laws(), 2);
        x.send(1);
        Edge.due("nobody sits: takes", x.takes(600), 0);
        Edge.due("nobody sits: laws", x.laws(), 10);
        x.undo(2);
        Edge.due("they sit again: ends", x.ends(600), -1);
    }

    private static void endsOrNever() {
        Edge.of(19, "NONE: it goes on for ever.");
        PinchedBill x = Check.housed(FOR_EVER);
        PinchedBill y = Check.housed(THREE);
        for (int b = 0; b < 1000; b += 100) {
            Edge.due("for ever " + b, x.ends(b), -1);
            Edge.due("a law " + b, y.ends(b), Math.max(b, 500));
        }
        Edge.due("no people", new PinchedBill().ends(900), 900);
        PinchedBill still = Check.housed("house lines 1;person 5;pinches:1=1;");
        Edge.due("it stays as it is, but is no law", still.ends(500), -1);
        Edge.of(20, "By how many STEPS; NONE: never.");
        for (int b = 0; b < 1000; b += 100) {
            Edge.due("never " + b, x.takes(b), -1);
            Edge.due("till 500 " + b, y.takes(b), Math.max(0, 5 - b / 100));
        }
        Edge.due("no people", new PinchedBill().takes(900), 0);
        Edge.due("it stays as it is, but is no law", still.takes(500), -1);
    }

    private static void longWay() {
        Edge.of(20, "By how many STEPS");
        PinchedBill x = Check.housed(LongWay.text("one<8"));
        Edge.due("eight steps for each of 800 bills", x.takes(0), 6400);
        Edge.due("the last of them", x.takes(LongWay.bill(799)), 8);
        Edge.due("their law", x.ends(0), 800);
        Edge.due("all end there", x.into(800), 801);
        Edge.due("the longest way", x.longest(), 0);
        Edge.due("none is endless", x.endless(), 0);
        Edge.due("laws", x.laws(), 200);
        Edge.of(21, "What it is in n STEPS (0 to 9,999; a LAW stays).");
        for (int n = 0; n < 10_000; n = n * 3 + 7) {
            Edge.due("goes(0, " + n + ")", x.goes(0, n), LongWay.bill(n / 8));
        }
        Edge.due("goes(0, 6399)", x.goes(0, 6399), LongWay.bill(799));
        Edge.due("goes(0, 6400)", x.goes(0, 6400), 800);
        Edge.due("goes(0, 6401)", x.goes(0, 6401), 800);
        Edge.due("goes(0, 9999)", x.goes(0, 9999), 800);
    }

    private static void inSoManySteps() {
        Edge.of(21, "What it is in n STEPS (0 to 9,999; a LAW stays). IllegalArgumentException: also n.");
        PinchedBill x = Check.housed(FOR_EVER);
        Edge.due("goes(400, 0)", x.goes(400, 0), 400);
        Edge.due("goes(400, 1)", x.goes(400, 1), 500);
        Edge.due("goes(400, 9998)", x.goes(400, 9998), 400);
        Edge.due("goes(400, 9999)", x.goes(400, 9999), 500);
        Edge.due("a law", Check.housed(THREE).goes(700, 9999), 700);
        for (int n : new int[] {-1, 10_000, FAR[0], FAR[1], FAR[2], FAR[3]}) {
            Edge.dueThrow("goes(400, " + n + ")", IllegalArgumentException.class, () -> x.goes(400, n));
            Edge.dueThrow("goes(401, " + n + ")", IllegalArgumentException.class, () -> x.goes(401, n));
        }
    }

    private static void ring(String text, int bill, int length, int begins, int... bills) {
        PinchedBill x = Check.housed(text);
        Edge.due("length of " + bill + " in " + text, x.ring(bill, 0), length);
        Edge.due("begins, of " + bill + " in " + text, x.ring(bill, 1), begins);
        for (int k = 0; k < 10; k++) {
            Edge.due("bill " + k + " of " + bill + " in " + text, x.ring(bill, 10 + k), k < bills.length ? bills[k] : -1);
        }
    }

    private static void rings() {
        Edge.of(Edge.TERMS, "BILL and who SPOKE last come again; the RING's length: STEPS till both do; it begins with the first BILL that "
                + "does, behind as few STEPS as can be.");
        ring(FOR_EVER, 400, 2, 1, 500, 400);
        ring(FOR_EVER, 900, 2, 1, 900, 800);
        ring("house lines 1;person 5;pinches:1=1;", 500, 1, 1, 500);
        ring("house lines 1;person 5;pinches:1=1;", 0, 1, 5, 500);
        ring("house lines 1;person 5;person 5;pinches:1=1;", 500, 2, 1, 500, 500);
        ring("house lines 1;person 5;person 5;pinches:1=1;", 400, 2, 1, 500, 500);
        ring("house lines 1;person 5;person 5;pinches:1=1;", 300, 2, 2, 500, 500);
        ring("house lines 3;" + "person 9 9 9;".repeat(8) + "pinches:1=1;", 999, 8, 1, 999, 999, 999, 999, 999, 999, 999, 999);
        ring("house lines 1;person 9;person 9;person 0;pinches:1=1;", 0, 3, 23, 900, 800, 900);
        Edge.of(22, "10 + k: its k-th BILL (k 0 to 9; NONE: it isn't so long)");
        String up = "house lines 1;person 9;person 9;person 9;person 9;";
        ring(up + "person 0;person 0;person 0;person 0;pinches:1=1;", 200, 8, 1, 300, 400, 500, 600, 500, 400, 300, 200);
        // Round three columns and two rows, then round three rows.
        ring(round(2), 0, 10, 1, 100, 200, 300, 310, 320, 220, 120, 20, 10, 0);
        ring(round(3), 0, 12, 1, 100, 200, 300, 310, 320, 330, 230, 130, 30, 20);
    }

    /** A bill goes round: the first figure up to 3, the second up to the told one, and back. */
    private static String round(int second) {
        return "house lines 2;person 3 0;person 3 " + second + ";person 0 " + second + ";person 0 0;"
                + "pinches:who=0 and two=0 and one<3 or who=1 and one=3 and two<" + second
                + " or who=2 and two=" + second + " and one>0 or who=3 and one=0 and two>0;";
    }

    private static void ringsWithOthers() {
        Edge.of(22, "NONE: it ENDS.");
        PinchedBill x = Check.housed(THREE);
        for (int what : new int[] {0, 1, 10, 15, 19}) {
            Edge.due("ring(0, " + what + ")", x.ring(0, what), -1);
            Edge.due("ring(900, " + what + ")", x.ring(900, what), -1);
        }
        Edge.of(Edge.TERMS, "behind some STEPS it is in a RING");
        // The same bill comes again at once, but by another speaker each time: only both make a ring.
        PinchedBill y = Check.housed("house lines 1;" + "person 4;".repeat(7) + "person 9;pinches:one<9;bill 4;");
        Edge.due("seven leave it, the eighth doesn't", y.goes(400, 8), 500);
        Edge.due("then seven take it back", y.goes(400, 9), 400);
        Edge.due("length", y.ring(400, 0), 8);
        Edge.due("begins", y.ring(400, 1), 1);
    }

    private static void lateRing() {
        Edge.of(22, "1: behind how many STEPS it begins");
        // Without a law it goes on from 800 to 900 and stays there.
        PinchedBill x = Check.housed(LongWay.text("1=1"));
        Edge.due("length", x.ring(0, 0), 8);
        Edge.due("begins", x.ring(0, 1), 8 * 801);
        Edge.due("its first bill", x.ring(0, 10), 900);
        Edge.due("its eighth bill", x.ring(0, 17), 900);
        Edge.due("no ninth", x.ring(0, 18), -1);
        Edge.due("ends", x.ends(0), -1);
        Edge.due("endless", x.endless(), 1000);
        Edge.due("longest", x.longest(), -1);
    }

    private static void ringWhat() {
        Edge.of(22, "IllegalArgumentException: also another what.");
        PinchedBill x = Check.housed(FOR_EVER);
        PinchedBill y = Check.housed(THREE);
        for (int what : new int[] {-1, 2, 3, 8, 9, 20, 21, FAR[0], FAR[1], FAR[2], FAR[3]}) {
            Edge.dueThrow("ring(400, " + what + "), for ever", IllegalArgumentException.class, () -> x.ring(400, what));
            Edge.dueThrow("ring(400, " + what + "), it ends", IllegalArgumentException.class, () -> y.ring(400, what));
        }
        Edge.due("ring(400, 19)", x.ring(400, 19), -1);
        Edge.dueThrow("ring(410, 0)", IllegalArgumentException.class, () -> x.ring(410, 0));
    }

    private static void laws() {
        Edge.of(23, "How many LAWS there are of all BILLS.");
        Edge.due("none", Check.housed(FOR_EVER).laws(), 0);
        Edge.due("all of 10", new PinchedBill().laws(), 10);
        Edge.due("all of 100", Check.housed("house lines 2;").laws(), 100);
        Edge.due("all of 1000", Check.housed("house lines 3;").laws(), 1000);
        Edge.due("the last alone", Check.housed("house lines 3;person 0 0 0;pinches:one+two+three<27;").laws(), 1);
        Edge.of(24, "The k-th LAW (0: the first); NONE: not so many. IllegalArgumentException: k is below 0.");
        PinchedBill all = Check.housed("house lines 3;");
        Edge.due("law(0)", all.law(0), 0);
        Edge.due("law(999)", all.law(999), 999);
        Edge.due("law(1000)", all.law(1000), -1);
        Edge.due("law(most)", all.law(FAR[3]), -1);
        PinchedBill last = Check.housed("house lines 3;person 0 0 0;pinches:one+two+three<27;");
        Edge.due("law(0) of one", last.law(0), 999);
        Edge.due("law(1) of one", last.law(1), -1);
        Edge.due("law(0) of none", Check.housed(FOR_EVER).law(0), -1);
        Edge.due("law(9) of two lines", Check.housed("house lines 2;").law(9), 90);
        for (int k : new int[] {-1, -2, FAR[0]}) {
            Edge.dueThrow("law(" + k + ")", IllegalArgumentException.class, () -> all.law(k));
        }
    }

    private static void intoOne() {
        Edge.of(25, "(itself too; 0: it is no LAW)");
        PinchedBill x = Check.housed(THREE);
        int[] due = {0, 0, 0, 0, 0, 6, 1, 1, 1, 1};
        for (int b = 0; b < 10; b++) {
            Edge.due("into(" + 100 * b + ")", x.into(100 * b), due[b]);
        }
        PinchedBill all = Check.housed("house lines 3;person 9 9 9;pinches:one+two+three<27;");
        Edge.due("all 1000", all.into(999), 1000);
        Edge.due("no law", all.into(998), 0);
        Edge.due("in a ring", Check.housed(FOR_EVER).into(400), 0);
        Edge.dueThrow("into(998) of two lines", IllegalArgumentException.class, () -> Check.housed("house lines 2;").into(998));
    }

    private static void endless() {
        Edge.of(26, "How many BILLS go on for ever.");
        Edge.due("none of 10", new PinchedBill().endless(), 0);
        Edge.due("all of 10", Check.housed(FOR_EVER).endless(), 10);
        Edge.due("all of 1000", Check.housed("house lines 3;person 0 0 0;pinches:1=1;").endless(), 1000);
        PinchedBill one = Check.housed("house lines 2;person 0 9;person 9 9 out;pinches:who=0 and one+two=0 or who=1;changes:0;");
        Edge.due("one of 100", one.endless(), 1);
        one.call(1);
        Edge.due("all of 100, one more sits", one.endless(), 100);
        one.send(0);
        one.send(1);
        Edge.due("nobody sits", one.endless(), 0);
    }

    private static void longest() {
        Edge.of(27, "The BILL that ENDS by most STEPS, the first; NONE: none ENDS.");
        Edge.due("none ends", Check.housed(FOR_EVER).longest(), -1);
        Edge.due("all are laws", Check.housed("house lines 3;").longest(), 0);
        Edge.due("the first of two from both sides", Check.housed("house lines 1;person 4;pinches:not one=4 and one<9 and one>0;").longest(),
                800);
        Edge.due("the first of two as far", Check.housed("house lines 1;person 4;pinches:not one=4 and one<8;").longest(), 0);
        Edge.due("as far on both sides", Check.housed("house lines 1;person 4;pinches:not one=4 and one<9;").longest(), 0);
        Edge.due("the last of all", Check.housed("house lines 3;person 0 0 0;pinches:one*100+two*10+three>998;").longest(), 999);
        Edge.due("one law alone ends", Check.housed("house lines 2;person 0 0;pinches:not one*two=81;changes:0;").longest(), 990);
    }

    private static void nearest() {
        Edge.of(28, "(the sum of how far their FIGURES are apart is least), the first; NONE: there is none");
        Edge.due("none", Check.housed(FOR_EVER).nearest(400), -1);
        Edge.due("itself", Check.housed("house lines 3;").nearest(999), 999);
        PinchedBill far = Check.housed("house lines 3;person 9 9 9;pinches:one+two+three<27;");
        Edge.due("as far as can be", far.nearest(0), 999);
        PinchedBill two = Check.housed("house lines 3;person 0 0 0;pinches:not one*100+two*10+three=250 and not one*100+two*10+three=700;");
        Edge.due("five apart, five apart: the first", two.nearest(200), 250);
        Edge.due("five apart, five apart: the first", two.nearest(750), 250);
        Edge.due("four apart, six apart", two.nearest(210), 250);
        Edge.due("nine apart, one apart", two.nearest(600), 700);
        PinchedBill each = Check.housed("house lines 3;person 0 0 0;pinches:not[one=2 and two+three=0 or two=2 and one+three=0 or three=2 and one+two=0];");
        Edge.due("two apart by each figure, the first", each.nearest(0), 2);
        Edge.due("one apart by the first figure", each.nearest(100), 200);
        Edge.due("one apart by the second", each.nearest(10), 20);
        Edge.due("one apart by the third", each.nearest(1), 2);
        Edge.due("three apart by the third, four else", each.nearest(5), 2);
        PinchedBill third = Check.housed("house lines 3;person 0 0 0;pinches:not[three=2 and one+two=0 or one=3 and two+three=0];");
        Edge.due("two by the third, three by the first", third.nearest(0), 2);
        PinchedBill second = Check.housed("house lines 3;person 0 0 0;pinches:not[two=2 and one+three=0 or three=3 and one+two=0];");
        Edge.due("two by the second, three by the third", second.nearest(0), 20);
        PinchedBill first = Check.housed("house lines 3;person 0 0 0;pinches:not[one=2 and two+three=0 or three=3 and one+two=0];");
        Edge.due("two by the first, three by the third", first.nearest(0), 200);
        PinchedBill y = Check.housed("house lines 2;person 0 0;pinches:not [one=3 and two=5 or one=5 and two=3];");
        Edge.due("alike, the first", y.nearest(440), 350);
        Edge.due("nearer to the second", y.nearest(530), 530);
        Edge.due("nearer to the second by one figure", y.nearest(540), 530);
        Edge.due("nearer to the first by number, to the second by figures", y.nearest(420), 530);
        for (int b : new int[] {-1, 1000, 5, FAR[0], FAR[3]}) {
            Edge.dueThrow("nearest(" + b + ")", IllegalArgumentException.class, () -> y.nearest(b));
        }
    }
}
