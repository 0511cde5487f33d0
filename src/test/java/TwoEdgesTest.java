/** Edges of promises 39 to 42: no round, 9,999 rounds and one more, chances of 0 and 1, nobody to stay away. */
public final class TwoEdgesTest {
    private static final String THREE = "house lines 1;person 3;person 5 temper 5;person 2 out;bill 0;";
    private static final String FOR_EVER = "house lines 1;person 9;person 0;pinches:1=1;bill 4;";
    private static final int[] FAR = {Integer.MIN_VALUE, Integer.MIN_VALUE + 1, Integer.MAX_VALUE - 1, Integer.MAX_VALUE};

    private TwoEdgesTest() {
    }

    public static void main(String[] args) {
        noRound();
        manyRounds();
        whoSpokeToTheFirst();
        inRounds();
        refused();
        chances();
        comesOrNot();
        away();
        Edge.end(39, 42);
    }

    private static void noRound() {
        Edge.of(39, "by how many ROUNDS both are LAWS (0: they are)");
        PinchedBill x = Check.housed(THREE);
        Edge.due("both(500, 900)", x.both(500, 900), 0);
        Edge.due("both(500, 500)", x.both(500, 500), 0);
        Edge.due("both(400, 900)", x.both(400, 900), 1);
        Edge.due("both(900, 400)", x.both(900, 400), 1);
        Edge.due("no people", new PinchedBill().both(0, 900), 0);
        x.send(0);
        x.send(1);
        Edge.due("nobody sits", x.both(0, 0), 0);
    }

    /** The first goes by seven; the second, at 0, waits for person 7 by eight, whom the first has had each time. */
    private static String waiting(String fewer) {
        return LongWay.text("[not who=6 or one+two+three=0]and[who=7 or one<7 or two<9" + fewer + "]and one<8");
    }

    private static void manyRounds() {
        Edge.of(39, "NONE: not by 9,999.");
        PinchedBill x = Check.housed(waiting(""));
        Edge.due("9,999 rounds", x.both(64, 0), 9999);
        Edge.due("the second ahead of the last", x.bothIn(64, 0, 9998, 1), LongWay.bill(799));
        Edge.due("the second behind the last", x.bothIn(64, 0, 9999, 1), 800);
        Edge.due("the first", x.bothIn(64, 0, 9998, 0), 800);
        Edge.due("the first one change nearer", x.both(65, 0), 9999 - 7);
        Edge.due("the first one change farther", x.both(63, 0), -1);
        PinchedBill y = Check.housed(waiting(" or three<6"));
        Edge.due("10,000 rounds", y.both(75, 0), -1);
        Edge.due("one change is left", y.bothIn(75, 0, 9999, 1), LongWay.bill(799));
        Edge.due("that ahead of it", y.bothIn(75, 0, 9992, 1), LongWay.bill(798));
        Edge.due("for ever", Check.housed(FOR_EVER).both(400, 400), -1);
        Edge.due("the first for ever", Check.housed("house lines 1;person 9;pinches:one<5;changes:0-1;").both(0, 900), -1);
        Edge.due("the second for ever", Check.housed("house lines 1;person 9;pinches:one<5;changes:0-1;").both(900, 0), -1);
    }

    private static void rounds(PinchedBill x, int bill, int other, int[] first, int[] second) {
        for (int n = 0; n < first.length; n++) {
            Edge.due("the first in " + n, x.bothIn(bill, other, n, 0), first[n]);
            Edge.due("the second in " + n, x.bothIn(bill, other, n, 1), second[n]);
        }
    }

    private static void whoSpokeToTheFirst() {
        Edge.of(Edge.TERMS, "who SPOKE in this ROUND to the first isn't PINCHED by the second (which stays, if nobody else is); till both are LAWS");
        PinchedBill one = Check.housed("house lines 1;person 3;");
        rounds(one, 0, 0, new int[] {0, 100, 200, 300, 300, 300, 300, 300}, new int[] {0, 0, 0, 0, 100, 200, 300, 300});
        rounds(one, 900, 0, new int[] {900, 900, 900, 900, 900}, new int[] {0, 100, 200, 300, 300});
        // To the first 0, 1, 2, 0 .. speak; to the second 1, 2, 0, 1 .. : up, down, up for 0, 1, 2.
        PinchedBill three = Check.housed("house lines 1;person 9;person 0;person 9;pinches:1=1;");
        rounds(three, 500, 500, new int[] {500, 600, 500, 600, 700, 600}, new int[] {500, 400, 500, 600, 500, 600});
        // To the first only 0 ever speaks; to the second 1, who comes again and again, till 0 is free.
        PinchedBill two = Check.housed("house lines 1;person 9;person 0;pinches:who=0 and one<7 or who=1 and one>0 and one<5;");
        rounds(two, 500, 400, new int[] {500, 600, 700, 700, 700}, new int[] {400, 300, 200, 300, 200});
    }

    private static void inRounds() {
        Edge.of(40, "What the first (which 0) or the second one (1) is in n ROUNDS (0 to 9,999).");
        PinchedBill x = Check.housed(FOR_EVER);
        Edge.due("none, the first", x.bothIn(400, 700, 0, 0), 400);
        Edge.due("none, the second", x.bothIn(400, 700, 0, 1), 700);
        Edge.due("9,998, the first", x.bothIn(400, 700, 9998, 0), 400);
        Edge.due("9,998, the second", x.bothIn(400, 700, 9998, 1), 700);
        Edge.due("9,999, the first", x.bothIn(400, 700, 9999, 0), 500);
        Edge.due("9,999, the second", x.bothIn(400, 700, 9999, 1), 600);
        PinchedBill y = Check.housed(THREE);
        Edge.due("laws stay, the first", y.bothIn(0, 0, 9999, 0), 500);
        Edge.due("laws stay, the second", y.bothIn(0, 600, 9999, 1), 600);
    }

    private static void refused() {
        Edge.of(40, "IllegalArgumentException: also which, n.");
        PinchedBill x = Check.housed(THREE);
        for (int n : new int[] {-1, 10_000, FAR[0], FAR[1], FAR[2], FAR[3]}) {
            Edge.dueThrow("bothIn(0, 0, " + n + ", 0)", IllegalArgumentException.class, () -> x.bothIn(0, 0, n, 0));
            Edge.dueThrow("bothIn(900, 900, " + n + ", 1)", IllegalArgumentException.class, () -> x.bothIn(900, 900, n, 1));
        }
        for (int which : new int[] {-1, 2, 3, FAR[0], FAR[3]}) {
            Edge.dueThrow("bothIn(0, 0, 1, " + which + ")", IllegalArgumentException.class, () -> x.bothIn(0, 0, 1, which));
        }
        for (int no : new int[] {-1, 1, 10, 999, 1000, FAR[0], FAR[3]}) {
            Edge.dueThrow("bothIn(" + no + ", 0, 1, 0)", IllegalArgumentException.class, () -> x.bothIn(no, 0, 1, 0));
            Edge.dueThrow("bothIn(0, " + no + ", 1, 0)", IllegalArgumentException.class, () -> x.bothIn(0, no, 1, 0));
            Edge.dueThrow("both(" + no + ", 0)", IllegalArgumentException.class, () -> x.both(no, 0));
            Edge.dueThrow("both(0, " + no + ")", IllegalArgumentException.class, () -> x.both(0, no));
            Edge.dueThrow("chance(" + no + ", 0)", IllegalArgumentException.class, () -> x.chance(no, 0));
            Edge.dueThrow("away(" + no + ")", IllegalArgumentException.class, () -> x.away(no));
        }
        Edge.of(41, "IllegalArgumentException: also another what.");
        for (int what : new int[] {-1, 2, 3, FAR[0], FAR[3]}) {
            Edge.dueThrow("chance(0, " + what + ")", IllegalArgumentException.class, () -> x.chance(0, what));
        }
    }

    private static void chance(String people, int bill, long above, long below) {
        PinchedBill x = Check.housed("house lines 1;" + people);
        Edge.due("above, of " + people, x.chance(bill, 0), above);
        Edge.due("below, of " + people, x.chance(bill, 1), below);
    }

    private static void chances() {
        Edge.of(41, "CHANCE, what 0: the number above, 1: below, in lowest terms.");
        chance("", 0, 1, 1);
        chance("person 9;", 0, 1, 1);
        // With this law it ends only if nobody comes.
        String never = "pinches:1=1;";
        chance("person 9;" + never, 0, 0, 1);
        chance("person 9;".repeat(8) + never, 0, 0, 1);
        chance("person 9 temper 0;" + never, 0, 1, 1);
        chance("person 9 temper 0;".repeat(8) + never, 0, 1, 1);
        chance("person 9 temper 9;" + never, 0, 1, 10);
        chance("person 9 temper 1;" + never, 0, 9, 10);
        chance("person 9 temper 5;" + never, 0, 1, 2);
        chance("person 9 temper 9;".repeat(8) + never, 0, 1, 100_000_000);
        chance("person 9 temper 1;".repeat(8) + never, 0, 43_046_721, 100_000_000);
        chance("person 9 temper 5;".repeat(8) + never, 0, 1, 256);
        chance("person 9 temper 8;".repeat(8) + never, 0, 1, 390_625);
        chance("person 9 temper 5;person 9 temper 0;" + never, 0, 1, 2);
        // It goes on for ever if 0 and 1 come both.
        String both = "pinches:one=0 and who=0 or one=1 and who=1;";
        chance("person 1;person 0;" + both, 0, 0, 1);
        chance("person 1 temper 5;person 0;" + both, 0, 1, 2);
        chance("person 1 temper 9;person 0 temper 9;" + both, 0, 19, 100);
        chance("person 1 temper 1;person 0 temper 1;" + both, 0, 99, 100);
        chance("person 1 temper 4;person 0 temper 5;" + both, 0, 4, 5);
        chance("person 1 temper 4;person 0 temper 5;" + both, 900, 1, 1);
    }

    private static void comesOrNot() {
        Edge.of(Edge.TERMS, "each PERSON comes as likely as its temper tells, each by itself, whether it sits now or not");
        PinchedBill x = Check.housed("house lines 1;person 1 temper 4 out;person 0 temper 5;pinches:one=0 and who=0 or one=1 and who=1;");
        Edge.due("one is out", x.chance(0, 0) * 10 + x.chance(0, 1), 45);
        x.send(1);
        Edge.due("nobody sits", x.chance(0, 0) * 10 + x.chance(0, 1), 45);
        Edge.due("away, nobody sits", x.away(0), 0);
        x.call(0);
        x.call(1);
        Edge.due("both sit", x.chance(0, 0) * 10 + x.chance(0, 1), 45);
        Edge.due("who sits stays", x.count(3), 3);
    }

    private static void away(int due, String people) {
        Edge.due("away, of " + people, Check.housed("house lines 1;" + people).away(0), due);
    }

    private static void away() {
        Edge.of(42, "The PERSON whose staying away for sure makes CHANCE greatest, if greater than so, the first; NONE: none.");
        String never = "pinches:1=1;";
        away(-1, "");
        away(-1, "person 9;");
        away(0, "person 9;" + never);
        away(0, "person 9 temper 1;" + never);
        away(-1, "person 9 temper 0;" + never);
        away(-1, "person 9;person 9;" + never);
        away(0, "person 9;person 9 temper 9;" + never);
        away(1, "person 9 temper 9;person 9;" + never);
        away(0, "person 9 temper 5;person 9 temper 5;person 9 temper 5;" + never);
        away(2, "person 9 temper 4;person 9 temper 5;person 9 temper 6;person 9 temper 6;" + never);
        away(7, "person 9 temper 1;".repeat(7) + "person 9 temper 2;" + never);
        // 0 and 2 make a ring; 1 leads out of it, and would be missed.
        String ring = "pinches:one=0 and who=0 or one=1 and who>0;";
        away(0, "person 1;person 2 temper 5;person 0;" + ring);
        away(0, "person 1 temper 9;person 2 temper 5;person 0 temper 9;" + ring);
        // 2 makes a ring with 0 as with 1.
        away(2, "person 1 temper 8;person 1 temper 5;person 0 temper 9;pinches:one=0 and who<2 or one=1 and who=2;");
        away(-1, "person 1;person 2;person 0;" + ring);
    }
}
