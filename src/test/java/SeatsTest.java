import java.util.NoSuchElementException;

/** Promises 29 to 33: the fewest who have to sit, whom to hire, who is weighty, who speaks how often. */
public final class SeatsTest {
    /** 0 and 2 bring it from 0 to 3, 1 from 3 to 5, 3 from 0 to 5, 4 up and down for ever. */
    private static final String RELAY = "house lines 1;person 0;person 0 out;person 0;person 0 out;person 0 out;"
            + "pinches:[who=0 or who=2] and one<3 or who=1 and one>2 and one<5 or who=3 and one<5 and one>0 or who=4;changes:1;";
    /** 0 brings it from 0 to 1, 1 from 1 to 2, 2 back from 1 to 0. */
    private static final String HELPER = "house lines 1;person 0;person 0 out;person 0;"
            + "pinches:who=0 and one=0 or who>0 and one=1;changes:3-who*2;";

    private SeatsTest() {
    }

    public static void main(String[] args) {
        seats();
        hire();
        weighty();
        share();
        sorest();
        Check.end();
    }

    private static void seats() {
        PinchedBill x = Check.housed(RELAY);
        Check.due("29: any law, how many", x.seats(0, -1, 0), 0);
        Check.due("29: any law, which", x.seats(0, -1, 1), 0);
        Check.due("29: itself, nobody", x.seats(0, 0, 1), 0);
        Check.due("29: 300, how many", x.seats(0, 300, 0), 1);
        Check.due("29: 300, the least set of like ones", x.seats(0, 300, 1), 1);
        Check.due("29: 500, how many", x.seats(0, 500, 0), 2);
        Check.due("29: 500, which", x.seats(0, 500, 1), 3);
        Check.due("29: 500 from 100, the fewest ahead of the least set", x.seats(100, 500, 1), 8);
        Check.due("29: 500 from 300", x.seats(300, 500, 1), 2);
        Check.due("29: 400, none do", x.seats(0, 400, 0), -1);
        Check.due("29: 400, none do", x.seats(0, 400, 1), -1);
        Check.due("29: who sits now stays", x.count(3), 5);
        Check.dueThrow("29: bill", IllegalArgumentException.class, () -> x.seats(1, -1, 0));
        Check.dueThrow("29: goal 5", IllegalArgumentException.class, () -> x.seats(0, 5, 0));
        Check.dueThrow("29: goal -2", IllegalArgumentException.class, () -> x.seats(0, -2, 0));
        Check.dueThrow("29: goal 1000", IllegalArgumentException.class, () -> x.seats(0, 1000, 0));
        Check.dueThrow("29: what 2", IllegalArgumentException.class, () -> x.seats(0, -1, 2));
        Check.dueThrow("29: what -1", IllegalArgumentException.class, () -> x.seats(0, -1, -1));
        Check.dueThrow("29: bill NONE", IllegalArgumentException.class, () -> x.seats(-1, -1, 0));
        PinchedBill y = new PinchedBill();
        Check.due("29: no people", y.seats(300, 300, 1), 0);
        Check.due("29: no people", y.seats(300, 400, 1), -1);
    }

    private static void hire() {
        PinchedBill x = Check.housed(HELPER);
        Check.due("30: it goes on for ever", x.ends(0), -1);
        Check.due("30: hire(0)", x.hire(0), 1);
        Check.due("30: hire(200), it ends now", x.hire(200), -1);
        x.call(1);
        Check.due("30: it ends now", x.hire(0), -1);
        Check.due("30: whoever isn't there", Check.housed(
                "house lines 1;person 0;person 0 out;person 0 out;pinches:who=0 or one=0;changes:0;").hire(0), -1);
        Check.due("30: the first of two who help", Check.housed("house lines 1;person 0;person 0 out;person 0 out;person 0;"
                + "pinches:who=0 and one=0 or who>0 and one=1;changes:5-who*2;").hire(0), 1);
        Check.due("30: number 0", Check.housed("house lines 1;person 9 out;person 0;person 9;"
                + "pinches:one=0 and who=2 or one=1 and who<2;changes:hat-5;").hire(0), 0);
        Check.due("30: the first who helps, not the first", Check.housed("house lines 1;person 9;person 0 out;person 9 out;"
                + "person 0;pinches:who=0 and one=0 or who>0 and one=1;changes:hat-5;").hire(0), 2);
        Check.dueThrow("30: bill", IllegalArgumentException.class, () -> x.hire(-1));
    }

    private static void weighty() {
        PinchedBill x = Check.housed(HELPER);
        Check.due("31: for ever, but each of them away it ends", x.weighty(0), 5);
        x.call(1);
        Check.due("31: another law, not ending", x.weighty(0), 3);
        Check.due("31: a law is a law", x.weighty(200), 0);
        Check.dueThrow("31: bill", IllegalArgumentException.class, () -> x.weighty(5));
        PinchedBill y = Check.housed("house lines 1;person 3;person 5 temper 5;person 2 out;");
        Check.due("31: who is out isn't weighty", y.weighty(0), 2);
    }

    private static void share() {
        PinchedBill x = Check.housed("house lines 1;person 3;person 5 temper 5;person 2 out;");
        Check.due("32: none yet", x.share(0, 0, 0), 0);
        Check.due("32: first", x.share(0, 0, 1), 1);
        Check.due("32: second", x.share(0, 1, 1), 0);
        Check.due("32: both", x.share(0, 1, 2), 1);
        Check.due("32: to the end, 0", x.share(0, 0, 9999), 2);
        Check.due("32: to the end, 1", x.share(0, 1, 9999), 3);
        Check.due("32: who is out", x.share(0, 2, 9999), 0);
        Check.dueThrow("32: person", NoSuchElementException.class, () -> x.share(0, 3, 1));
        Check.dueThrow("32: person first", NoSuchElementException.class, () -> x.share(1, -1, -1));
        Check.dueThrow("32: bill", IllegalArgumentException.class, () -> x.share(1, 0, 1));
        Check.dueThrow("32: n below", IllegalArgumentException.class, () -> x.share(0, 0, -1));
        Check.dueThrow("32: n above", IllegalArgumentException.class, () -> x.share(0, 0, 10000));
        PinchedBill y = Check.housed("house lines 1;person 9;person 0;person 0;pinches:1=1;");
        Check.due("32: for ever", y.share(0, 0, 9999), 3333);
        Check.due("32: for ever, one more", y.share(0, 0, 9997), 3333);
        Check.due("32: for ever, one less", y.share(0, 1, 9997), 3332);
    }

    private static void sorest() {
        PinchedBill x = Check.housed("house lines 1;person 3;person 5 temper 5;person 2 out;");
        Check.due("33: till it ends", x.sorest(0), 1);
        Check.due("33: a law", x.sorest(900), -1);
        Check.due("33: like often, the first", x.sorest(100), 1);
        Check.due("33: like often, the first", Check.housed("house lines 1;person 2;person 2;").sorest(0), 0);
        PinchedBill y = Check.housed("house lines 1;person 9;person 0;pinches:1=1;");
        Check.due("33: till the ring is gone round once: 0, 1, 0", y.sorest(500), 0);
        PinchedBill z = Check.housed("house lines 1;person 9;person 9;person 0;"
                + "pinches:who=0 and one<3 or who=1 and one=3 or who=2 and one=4;");
        Check.due("33: ring", z.ring(0, 0), 2);
        Check.due("33: three on the way ahead of it", z.sorest(0), 0);
        Check.due("33: in the ring alone", z.sorest(300), 1);
        Check.dueThrow("33: bill", IllegalArgumentException.class, () -> x.sorest(50));
    }
}
