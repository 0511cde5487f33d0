/** Promises 39 to 42: two bills at once, chances, who should stay away. */
public final class TwoTest {
    private static final String THREE = "house lines 1;person 3;person 5 temper 5;person 2 out;bill 0;";
    private static final String RING = "house lines 1;person 9 temper 5;person 0 temper 2;pinches:1=1;";

    private TwoTest() {
    }

    public static void main(String[] args) {
        both();
        bothIn();
        chance();
        away();
        Check.end();
    }

    private static void both() {
        PinchedBill x = Check.housed(THREE);
        Check.due("39: both(0, 0)", x.both(0, 0), 7);
        Check.due("39: both are laws", x.both(500, 900), 0);
        Check.due("39: the first is one", x.both(500, 0), 5);
        Check.due("39: the second is one", x.both(0, 500), 5);
        Check.due("39: who spoke to the first isn't pinched by the second", x.both(400, 400), 2);
        Check.due("39: for ever", Check.housed(RING).both(0, 0), -1);
        PinchedBill one = Check.housed("house lines 1;person 5;");
        Check.due("39: one after the other", one.both(0, 0), 10);
        Check.due("39: one after the other", one.both(0, 400), 6);
        Check.due("39: one after the other", one.both(400, 0), 6);
        Check.dueThrow("39: bill", IllegalArgumentException.class, () -> x.both(5, 0));
        Check.dueThrow("39: other", IllegalArgumentException.class, () -> x.both(0, -1));
        // Who alone is pinched speaks to the first in each round, which never ends.
        PinchedBill waits = Check.housed("house lines 1;person 5;pinches:one<5 or one=9;changes:1;");
        Check.due("39: the second waits for ever", waits.both(900, 0), -1);
        Check.due("40: the second waits for ever", waits.bothIn(900, 0, 9999, 1), 0);
        Check.due("39: the first doesn't wait", waits.both(0, 900), -1);
        Check.due("40: the first doesn't wait", waits.bothIn(0, 900, 5, 0), 500);
    }

    private static void bothIn() {
        PinchedBill x = Check.housed(THREE);
        int[] first = {0, 100, 200, 300, 400, 500, 500, 500, 500};
        int[] second = {0, 100, 200, 300, 300, 300, 400, 500, 500};
        for (int n = 0; n < first.length; n++) {
            Check.due("40: the first in " + n, x.bothIn(0, 0, n, 0), first[n]);
            Check.due("40: the second in " + n, x.bothIn(0, 0, n, 1), second[n]);
        }
        Check.due("40: in 9999", x.bothIn(0, 0, 9999, 1), 500);
        PinchedBill y = Check.housed(RING);
        Check.due("40: for ever, the first", y.bothIn(400, 400, 9999, 0), 500);
        Check.due("40: for ever, the second is led by the other one", y.bothIn(400, 400, 9999, 1), 300);
        Check.dueThrow("40: bill", IllegalArgumentException.class, () -> x.bothIn(5, 0, 0, 0));
        Check.dueThrow("40: other", IllegalArgumentException.class, () -> x.bothIn(0, 5, 0, 0));
        Check.dueThrow("40: n", IllegalArgumentException.class, () -> x.bothIn(0, 0, 10000, 0));
        Check.dueThrow("40: n", IllegalArgumentException.class, () -> x.bothIn(0, 0, -1, 0));
        Check.dueThrow("40: which", IllegalArgumentException.class, () -> x.bothIn(0, 0, 0, 2));
        Check.dueThrow("40: which", IllegalArgumentException.class, () -> x.bothIn(0, 0, 0, -1));
    }

    private static void chanceIs(String text, int bill, long above, long below) {
        PinchedBill x = Check.housed(text);
        Check.due("41: above: " + text, x.chance(bill, 0), above);
        Check.due("41: below: " + text, x.chance(bill, 1), below);
    }

    private static void chance() {
        chanceIs("house lines 1;", 0, 1, 1);
        chanceIs(THREE, 0, 1, 1);
        // It ends only if nobody comes: 5/10 times 8/10.
        chanceIs(RING, 0, 2, 5);
        chanceIs("house lines 1;person 9 temper 5 out;person 0 temper 2 out;pinches:1=1;", 0, 2, 5);
        chanceIs("house lines 1;person 9;person 0;pinches:1=1;", 0, 0, 1);
        chanceIs("house lines 1;person 9 temper 0;person 0 temper 0;pinches:1=1;", 0, 1, 1);
        chanceIs("house lines 1;person 1 temper 3;pinches:1=1;", 0, 7, 10);
        String eight = "person 1 temper 1;person 1 temper 1;person 1 temper 1;person 1 temper 1;"
                + "person 1 temper 1;person 1 temper 1;person 1 temper 1;person 1 temper 1;";
        chanceIs("house lines 1;" + eight + "pinches:1=1;", 0, 43046721, 100000000);
        // Only 0 is pinched for ever.
        chanceIs("house lines 1;" + eight + "pinches:who=0;", 0, 9, 10);
        PinchedBill z = Check.housed(RING);
        Check.due("41: one house", z.chance(0, 1), 5);
        Check.tell(z, THREE);
        Check.due("41: then another house", z.chance(0, 1), 1);
        Check.due("29: then another house", z.seats(0, 500, 1), 2);
        PinchedBill x = Check.housed(RING);
        x.send(0);
        Check.due("41: whether it sits now or not", x.chance(0, 0), 2);
        Check.dueThrow("41: bill", IllegalArgumentException.class, () -> x.chance(5, 0));
        Check.dueThrow("41: what 2", IllegalArgumentException.class, () -> x.chance(0, 2));
        Check.dueThrow("41: what -1", IllegalArgumentException.class, () -> x.chance(0, -1));
    }

    private static void away() {
        PinchedBill x = Check.housed(RING);
        Check.due("42: the one who comes more likely", x.away(0), 0);
        Check.due("42: the second", Check.housed(
                "house lines 1;person 9 temper 2;person 0 temper 5;pinches:1=1;").away(0), 1);
        Check.due("42: like ones, the first", Check.housed(
                "house lines 1;person 9 temper 5;person 0 temper 5;pinches:1=1;").away(0), 0);
        Check.due("42: not greater than so", Check.housed(
                "house lines 1;person 9;person 0;pinches:1=1;").away(0), -1);
        Check.due("42: it ends for sure", Check.housed(THREE).away(0), -1);
        Check.due("42: no people", new PinchedBill().away(0), -1);
        // 1 helps 0 and 2 out of the ring 0 1 0 1; without 0 or without 2 it ends as well.
        Check.due("42: not the helper", Check.housed("house lines 1;person 0 temper 9;person 0 temper 1;person 0 temper 5;"
                + "pinches:who=0 and one=0 or who>0 and one=1;changes:3-who*2;").away(0), 0);
        Check.dueThrow("42: bill", IllegalArgumentException.class, () -> x.away(5));
    }
}
