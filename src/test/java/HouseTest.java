import java.util.NoSuchElementException;

/** Promises 1 to 10: a new object, the tape, a house, its people, whom a bill pinches. */
public final class HouseTest {
    private static final String THREE = "house lines 1;person 3;person 5 temper 5;person 2 out;bill 0;";

    private HouseTest() {
    }

    public static void main(String[] args) {
        newObject();
        feeding();
        telling();
        faultAsked();
        people();
        billAndSpeakers();
        pinching();
        speaking();
        Check.end();
    }

    private static void newObject() {
        PinchedBill x = new PinchedBill();
        Check.due("1: lines of text", x.count(0), 0);
        Check.due("1: lines of a bill", x.count(1), 1);
        Check.due("1: people", x.count(2), 0);
        Check.due("1: bill()", x.bill(), 0);
        Check.due("1: spoke()", x.spoke(), -1);
        Check.due("1: tape", x.count(7), 0);
        Check.due("1: fault(0)", x.fault(0), 0);
        Check.due("1: fault(1)", x.fault(1), -1);
        for (int t = 0; t < 4; t++) {
            int tray = t;
            Check.dueThrow("1: a tray is missing", IllegalStateException.class, () -> x.write(tray, 0, 1));
        }
        for (int i = 0; i < 3; i++) {
            int image = i;
            Check.dueThrow("1: no image was made", IllegalStateException.class, () -> restored(x, image));
        }
    }

    private static long restored(PinchedBill x, int i) {
        x.restore(i);
        return 0;
    }

    private static void feeding() {
        PinchedBill x = new PinchedBill();
        for (int i = 1; i <= 45; i++) {
            Check.due("2: feed " + i, x.feed(1, 2, 3, 4, 5), 20 * i);
        }
        Check.due("2: feed 46", x.feed(1, 2, 3, 4, 5), -1);
        Check.due("2: the tape behind it", x.count(7), 900);
        Check.due("2: the whole tape is a text", x.house(900), -11);
        Check.due("2: feed again", x.feed(0x20202041, 0, 0, 0, 0), 20);
        x.house(20);
        Check.due("2: the highest byte comes first", x.fault(1), 3);
        x.feed(0x20202020, 0x20202020, 0x20202020, 0x20202020, 0x20412020);
        x.house(20);
        Check.due("2: the fifth int is the last four bytes", x.fault(1), 17);
        x.feed(0xFF202020, 0, 0, 0, 0);
        Check.due("2: a byte above 127", x.house(4), -11);
    }

    private static void telling() {
        PinchedBill x = new PinchedBill();
        Check.due("3: house", Check.tell(x, THREE), 5);
        Check.due("3: lines of text", x.count(0), 5);
        Check.due("3: the tape is empty", x.count(7), 0);
        Check.dueThrow("3: above the tape", IllegalArgumentException.class, () -> x.house(1));
        Check.dueThrow("3: below 0", IllegalArgumentException.class, () -> x.house(-1));
        x.steps(1);
        Check.due("3: somebody spoke", x.spoke(), 0);
        Check.due("3: a fault", Check.tell(x, "house lines 1"), -12);
        Check.due("3: all stays: bill", x.bill(), 100);
        Check.due("3: all stays: spoke", x.spoke(), 0);
        Check.due("3: all stays: deeds", x.count(6), 1);
        Check.due("3: all stays: lines of text", x.count(0), 5);
        Check.due("3: the tape is empty behind a fault", x.count(7), 0);
        Check.due("3: told anew", Check.tell(x, THREE), 5);
        Check.due("3: nobody spoke", x.spoke(), -1);
        Check.due("3: no deeds", x.count(6), 0);
        Check.due("3: bill", x.bill(), 0);
        x.feed(0x686F7573, 0x65206C69, 0x6E657320, 0x323B5A5A, 0);
        Check.due("3: only the first n bytes", x.house(14), 1);
        Check.due("3: people are gone", x.count(2), 0);
        Check.due("3: nobody sits", x.count(3), 0);
        Check.due("3: lines of a bill", x.count(1), 2);
        x.feed(0, 0, 0, 0, 0);
        Check.due("3: no byte at all", x.house(0), -12);
        Check.due("3: at the text's length", x.fault(1), 0);
        x.feed(0, 0, 0, 0, 0);
        Check.dueThrow("3: one above", IllegalArgumentException.class, () -> x.house(21));
        Check.due("3: a throw leaves the tape", x.count(7), 20);
    }

    private static void faultAsked() {
        PinchedBill x = new PinchedBill();
        Check.due("4: fault(2)", x.fault(2), -1);
        Check.due("4: fault(-1)", x.fault(-1), -1);
        Check.tell(x, "house lines 4;");
        Check.due("4: fault(0)", x.fault(0), 3);
        Check.due("4: fault(1)", x.fault(1), 12);
        Check.dueThrow("4: a house that throws", IllegalArgumentException.class, () -> x.house(-5));
        Check.due("4: fault(0) stays", x.fault(0), 3);
        Check.due("4: fault(1) stays", x.fault(1), 12);
        Check.due("4: fault(2) then", x.fault(2), -1);
        Check.tell(x, THREE);
        Check.due("4: none then", x.fault(0), 0);
        Check.due("4: no place then", x.fault(1), -1);
    }

    private static void people() {
        PinchedBill x = Check.housed("house lines 2;person 7 4;person 0 9 temper 3 out temper 0;person 1 1;bill 3 3;");
        Check.due("5: hat", x.person(0, 0), 7);
        Check.due("5: head", x.person(0, 1), 4);
        Check.due("5: a mark it hasn't", x.person(0, 2), 0);
        Check.due("5: temper without", x.person(0, 3), 10);
        Check.due("5: the later temper", x.person(1, 3), 0);
        Check.due("5: sits", x.person(0, 4), 1);
        Check.due("5: out", x.person(1, 4), 0);
        Check.due("5: pinched, hat above one", x.person(0, 5), 1);
        Check.due("5: not pinched", x.person(1, 5), 0);
        Check.dueThrow("5: what 6", IllegalArgumentException.class, () -> x.person(0, 6));
        Check.dueThrow("5: what -1", IllegalArgumentException.class, () -> x.person(2, -1));
        Check.dueThrow("5: no such person", NoSuchElementException.class, () -> x.person(3, 0));
        Check.dueThrow("5: no such person first", NoSuchElementException.class, () -> x.person(-1, 9));
        x.draft(0);
        x.send(2);
        Check.due("5: pinched, though it doesn't sit", x.person(2, 5), 1);
    }

    private static void billAndSpeakers() {
        PinchedBill x = Check.housed("house lines 3;person 1 2 3;person 4 4 4 out;person 2 0 0;bill 0 5 9;");
        Check.due("6: bill()", x.bill(), 59);
        Check.due("7: spoke()", x.spoke(), -1);
        Check.due("8: next()", x.next(), 0);
        x.steps(1);
        Check.due("6: bill() behind a step", x.bill(), 148);
        Check.due("7: spoke() behind a step", x.spoke(), 0);
        Check.due("8: next(), who sits and is pinched", x.next(), 2);
        x.call(1);
        Check.due("8: next(), called in", x.next(), 1);
        x.draft(999);
        Check.due("7: spoke() behind a draft", x.spoke(), -1);
        Check.due("8: next() of a law", x.next(), -1);
        x.draft(0);
        Check.due("8: next() behind a draft", x.next(), 0);

        PinchedBill y = Check.housed("house lines 1;person 5;person 1;person 9;");
        y.steps(2);
        Check.due("8: behind the last comes the first", y.next(), 0);
        y.send(0);
        Check.due("8: who spoke last comes last", y.next(), 2);
        y.call(0);
        y.steps(1);
        y.send(2);
        Check.due("8: who spoke last comes again", y.next(), 0);
    }

    private static void pinching() {
        PinchedBill x = Check.housed(THREE);
        Check.due("9: pinched(0)", x.pinched(0), 3);
        x.call(2);
        Check.due("9: pinched(0) with all", x.pinched(0), 7);
        Check.due("9: pinched(200)", x.pinched(200), 3);
        Check.due("9: pinched(300)", x.pinched(300), 2);
        Check.due("9: pinched(500)", x.pinched(500), 0);
        for (int no : new int[] {-100, -1, 1, 10, 110, 901, 1000, Integer.MAX_VALUE, Integer.MIN_VALUE}) {
            Check.dueThrow("9: pinched(" + no + ")", IllegalArgumentException.class, () -> x.pinched(no));
        }
        PinchedBill two = Check.housed("house lines 2;");
        Check.due("9: two lines", two.pinched(990), 0);
        Check.dueThrow("9: two lines, three figures", IllegalArgumentException.class, () -> two.pinched(991));
        PinchedBill three = Check.housed("house lines 3;");
        Check.due("9: three lines", three.pinched(999), 0);
        Check.dueThrow("9: three lines, above", IllegalArgumentException.class, () -> three.pinched(1000));
    }

    private static void speaking() {
        PinchedBill x = Check.housed("house lines 3;person 0 9 5 out;");
        Check.due("10: nearer to each mark", x.spoken(555, 0), 465);
        Check.due("10: one is there", x.spoken(95, 0), 95);
        Check.due("10: from above and below", x.spoken(900, 0), 811);
        Check.dueThrow("10: no such person", NoSuchElementException.class, () -> x.spoken(555, 1));
        Check.dueThrow("10: no such person, told first", NoSuchElementException.class, () -> x.spoken(-5, -1));
        Check.dueThrow("10: no such bill", IllegalArgumentException.class, () -> x.spoken(1000, 0));
        PinchedBill y = Check.housed("house lines 3;person 0 0 0;changes:one-two+line-1;");
        Check.due("10: all as they were ahead: 5-6-1, 5-6, 5-6+1", y.spoken(564, 0), 454);
        Check.due("10: 0 to 9 always, below", Check.housed("house lines 2;person 0 0;changes:0-1;").spoken(0, 0), 0);
        Check.due("10: 0 to 9 always, above", Check.housed("house lines 3;person 0 0 0;changes:1;").spoken(989, 0), 999);
        Check.due("10: far is one as well", Check.housed("house lines 1;person 0;changes:999;").spoken(300, 0), 400);
        Check.due("10: only the lines it has", Check.housed("house lines 1;person 0;changes:1;").spoken(900, 0), 900);
    }
}
