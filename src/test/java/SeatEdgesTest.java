import java.util.NoSuchElementException;

/** Edges of promises 29 to 33: nobody and all have to sit, whom to hire, who is weighty, who speaks how often. */
public final class SeatEdgesTest {
    /** Person p alone brings bill p hundred on to the next one: to 800, all have to sit. */
    private static final String RELAY = "house lines 1;" + "person 9;".repeat(8) + "pinches:one=who;";
    private static final String FOR_EVER = "house lines 1;person 9;person 0;pinches:1=1;bill 4;";
    private static final int[] FAR = {Integer.MIN_VALUE, Integer.MIN_VALUE + 1, Integer.MAX_VALUE - 1, Integer.MAX_VALUE};

    private SeatEdgesTest() {
    }

    public static void main(String[] args) {
        nobodyToAll();
        fewestThenLeast();
        seatsRefused();
        hire();
        weighty();
        share();
        sorest();
        Edge.end(29, 33);
    }

    private static void seats(PinchedBill x, int bill, int goal, int many, int set) {
        Edge.due("how many from " + bill + " to " + goal, x.seats(bill, goal, 0), many);
        Edge.due("who from " + bill + " to " + goal, x.seats(bill, goal, 1), set);
    }

    private static void nobodyToAll() {
        Edge.of(29, "TO SIT so that it ENDS in any LAW (goal NONE) or a told BILL, what 0: how many, 1: which, as bits; NONE: none do.");
        PinchedBill x = Check.housed(RELAY);
        for (int p = 0; p <= 8; p++) {
            seats(x, 0, 100 * p, p, (1 << p) - 1);
            seats(x, 100 * p, 800, 8 - p, 255 & -1 << p);
            seats(x, 100 * p, -1, 0, 0);
        }
        seats(x, 0, 900, -1, -1);
        seats(x, 100, 0, -1, -1);
        seats(x, 900, 900, 0, 0);
        seats(new PinchedBill(), 500, -1, 0, 0);
        seats(new PinchedBill(), 500, 500, 0, 0);
        seats(new PinchedBill(), 500, 600, -1, -1);
        PinchedBill ever = Check.housed(FOR_EVER);
        seats(ever, 400, -1, 0, 0);
        seats(ever, 400, 400, 0, 0);
        seats(ever, 400, 500, -1, -1);
        Edge.of(Edge.TERMS, "of all PEOPLE a set that would sit (nobody else)");
        PinchedBill out = Check.housed("house lines 1;" + "person 9 out;".repeat(8) + "pinches:one=who;");
        seats(out, 0, 800, 8, 255);
        seats(out, 0, 300, 3, 7);
        Edge.due("who sits stays", out.count(3), 0);
        x.send(0);
        seats(x, 0, 800, 8, 255);
    }

    private static void fewestThenLeast() {
        Edge.of(Edge.TERMS, "the fewest, of like ones the least set as bits");
        // 0 and 1 together bring it from 0 to 200; 2 alone does, and so do 3 and 7.
        PinchedBill x = Check.housed("house lines 1;" + "person 2;".repeat(8)
                + "pinches:who=0 and one=0 or who=1 and one=1 or [who=2 or who=3 or who=7] and one<2;");
        seats(x, 0, 200, 1, 4);
        seats(x, 0, 100, 1, 1);
        seats(x, 100, 200, 1, 2);
        // Of two who are needed one can be 1, 2 or 3, the other 6 or 7.
        PinchedBill y = Check.housed("house lines 1;" + "person 2;".repeat(8)
                + "pinches:who>0 and who<4 and one=0 or who>5 and one=1;");
        seats(y, 0, 200, 2, 2 + 64);
        seats(y, 100, 200, 1, 64);
    }

    private static void seatsRefused() {
        Edge.of(29, "IllegalArgumentException: also the goal is no such BILL nor NONE, another what.");
        PinchedBill x = Check.housed(RELAY);
        for (int no : new int[] {-2, -100, 1, 10, 850, 999, 1000, FAR[0], FAR[1], FAR[2], FAR[3]}) {
            Edge.dueThrow("seats(0, " + no + ", 0)", IllegalArgumentException.class, () -> x.seats(0, no, 0));
            Edge.dueThrow("seats(" + no + ", 0, 0)", IllegalArgumentException.class, () -> x.seats(no, 0, 0));
        }
        Edge.dueThrow("seats(-1, 0, 0)", IllegalArgumentException.class, () -> x.seats(-1, 0, 0));
        for (int what : new int[] {-1, 2, 3, FAR[0], FAR[3]}) {
            Edge.dueThrow("seats(0, 0, " + what + ")", IllegalArgumentException.class, () -> x.seats(0, 0, what));
            Edge.dueThrow("seats(0, 900, " + what + "), none do", IllegalArgumentException.class, () -> x.seats(0, 900, what));
        }
    }

    private static void hire() {
        Edge.of(30, "The first PERSON who doesn't sit by whose being CALLED it ENDS; NONE: it ENDS now, none does.");
        // At 1 whoever has a 2 brings it to its end, who has a 0 back to 0, from where 3 brings it on again.
        String ring = "pinches:one=0 and who=3 or one=1 and not who=3;";
        PinchedBill x = Check.housed("house lines 1;person 2 out;person 0;person 2 out;person 2;" + ring);
        Edge.due("for ever", x.ends(0), -1);
        Edge.due("the first of two", x.hire(0), 0);
        x.call(0);
        Edge.due("0 is called, it ends", x.ends(0), 200);
        Edge.due("it ends now", x.hire(0), -1);
        Edge.due("another law", x.hire(900), -1);
        PinchedBill last = Check.housed("house lines 1;person 0;person 0 out;person 0 out;person 2;person 0 out;person 0 out;"
                + "person 0 out;person 2 out;" + "pinches:one=0 and who=3 or one=1 and not who=3;");
        Edge.due("the last of eight", last.hire(0), 7);
        PinchedBill none = Check.housed("house lines 1;person 0;person 0 out;person 0 out;person 2;" + ring);
        Edge.due("none does", none.hire(0), -1);
        Edge.due("all sit, for ever", Check.housed(FOR_EVER).hire(400), -1);
        Edge.due("no people", new PinchedBill().hire(0), -1);
        PinchedBill two = Check.housed("house lines 1;person 0;person 1 out;person 1 out;pinches:who=0 or who=1 and one=0;changes:0;");
        Edge.due("even both wouldn't do", two.hire(0), -1);
        for (int no : new int[] {-1, 1, 1000, FAR[0], FAR[3]}) {
            Edge.dueThrow("hire(" + no + ")", IllegalArgumentException.class, () -> two.hire(no));
        }
    }

    private static void weighty() {
        Edge.of(31, "would make it END in another LAW, or END or not END otherwise than now, as bits");
        PinchedBill x = Check.housed(RELAY);
        for (int p = 0; p <= 9; p++) {
            Edge.due("from " + 100 * p, x.weighty(100 * p), p > 8 ? 0 : 255 & -1 << p);
        }
        x.send(3);
        Edge.due("only those who sit", x.weighty(0), 7);
        Edge.due("only those who sit", x.weighty(300), 0);
        Edge.due("no people", new PinchedBill().weighty(0), 0);
        PinchedBill ever = Check.housed("house lines 1;person 9;person 0;pinches:one>0 and one<9;");
        Edge.due("each of two, sent, makes it end", ever.weighty(500), 3);
        ever.send(1);
        Edge.due("alone, sent, it is a law at once", ever.weighty(500), 1);
        Edge.due("at the law", ever.weighty(900), 0);
        PinchedBill three = Check.housed("house lines 1;person 9;person 0;person 0;pinches:1=1;");
        Edge.due("for ever without each of three, too", three.weighty(500), 0);
        PinchedBill holds = Check.housed("house lines 1;person 2;person 0;person 2;pinches:one=0 and who=2 or one=1 and who<2;");
        Edge.due("without 0 for ever, without 2 another law, 1 never speaks", holds.weighty(0), 5);
        for (int no : new int[] {-1, 1, 1000, FAR[0], FAR[3]}) {
            Edge.dueThrow("weighty(" + no + ")", IllegalArgumentException.class, () -> holds.weighty(no));
        }
    }

    private static void share() {
        Edge.of(32, "in the first n STEPS (0 to 9,999; a LAW has no more)");
        PinchedBill x = Check.housed(LongWay.text("one<8"));
        for (int p = 0; p < 8; p++) {
            Edge.due("none of " + p, x.share(0, p, 0), 0);
            Edge.due("7 steps, " + p, x.share(0, p, 7), p < 7 ? 1 : 0);
            Edge.due("8 steps, " + p, x.share(0, p, 8), 1);
            Edge.due("6399 steps, " + p, x.share(0, p, 6399), p < 7 ? 800 : 799);
            Edge.due("6400 steps, " + p, x.share(0, p, 6400), 800);
            Edge.due("9999 steps, " + p, x.share(0, p, 9999), 800);
        }
        Edge.due("a law", x.share(800, 0, 9999), 0);
        PinchedBill ever = Check.housed(FOR_EVER);
        Edge.due("9999 steps for ever", ever.share(400, 0, 9999), 5000);
        Edge.due("9999 steps for ever", ever.share(400, 1, 9999), 4999);
        Edge.due("9998 steps for ever", ever.share(400, 0, 9998), 4999);
        Edge.due("one step", ever.share(400, 0, 1), 1);
        Edge.due("one step", ever.share(400, 1, 1), 0);
        ever.send(0);
        Edge.due("who doesn't sit", ever.share(400, 0, 9999), 0);
        Edge.of(32, "NoSuchElementException; IllegalArgumentException: also n.");
        for (int n : new int[] {-1, 10_000, FAR[0], FAR[3]}) {
            Edge.dueThrow("share(400, 0, " + n + ")", IllegalArgumentException.class, () -> ever.share(400, 0, n));
            Edge.dueThrow("share(400, 2, " + n + ")", NoSuchElementException.class, () -> ever.share(400, 2, n));
        }
        Edge.dueThrow("share(401, 0, 1)", IllegalArgumentException.class, () -> ever.share(401, 0, 1));
        Edge.dueThrow("share(401, -1, 1)", NoSuchElementException.class, () -> ever.share(401, -1, 1));
    }

    private static void sorest() {
        Edge.of(33, "Who SPEAKS most often till it ENDS, or till the RING has been gone round once, the first; NONE: nobody does.");
        Edge.due("a law", Check.housed(RELAY).sorest(800), -1);
        Edge.due("no people", new PinchedBill().sorest(0), -1);
        Edge.due("each once, the first", Check.housed(RELAY).sorest(0), 0);
        Edge.due("each once, the first of those who do", Check.housed(RELAY).sorest(500), 5);
        Edge.due("the last alone", Check.housed(RELAY).sorest(700), 7);
        Edge.due("800 times each, the first", Check.housed(LongWay.text("one<8")).sorest(0), 0);
        // 1 brings it up to a mark, where 0 leaves it as it is for ever: a ring of one step, and one ahead of it.
        PinchedBill two = Check.housed("house lines 1;person 2;person 2;pinches:who=0 and one=2 or who=1 and one<2;");
        Edge.due("begins", two.ring(0, 1), 3);
        Edge.due("length", two.ring(0, 0), 1);
        Edge.due("twice and twice: the ring is gone round once", two.sorest(0), 0);
        PinchedBill three = Check.housed("house lines 1;person 3;person 3;pinches:who=0 and one=3 or who=1 and one<3;");
        Edge.due("three times and twice: the ring is not gone round twice", three.sorest(0), 1);
        Edge.due("twice and twice", three.sorest(100), 0);
        Edge.due("0, 1, 0", Check.housed(FOR_EVER).sorest(400), 0);
        for (int no : new int[] {-1, 1, 1000, FAR[0], FAR[3]}) {
            Edge.dueThrow("sorest(" + no + ")", IllegalArgumentException.class, () -> three.sorest(no));
        }
    }
}
