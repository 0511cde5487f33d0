import java.util.NoSuchElementException;

/** Edges of promises 1 to 10: a new object, the tape, faults, people, whom a bill pinches, who speaks next. */
public final class HouseEdgesTest {
    private static final String THREE = "house lines 1;person 3;person 5 temper 5;person 2 out;bill 0;";
    private static final String EIGHT = "house lines 1;" + "person 9;".repeat(8);
    private static final int BLANKS = 0x20202020;
    private static final int[] FAR = {Integer.MIN_VALUE, Integer.MIN_VALUE + 1, Integer.MAX_VALUE - 1, Integer.MAX_VALUE};

    private HouseEdgesTest() {
    }

    public static void main(String[] args) {
        newObject();
        highestFirst();
        fullTape();
        firstBytes();
        oneHouseAfterAnother();
        faultsAnswered();
        allStays();
        wrongLengths();
        faultAsked();
        people();
        nobodyAndNone();
        nextSpeakers();
        toldBills();
        spokenTo();
        sumsKept();
        truths();
        sums();
        none();
        Edge.end(1, 10);
    }

    private static void newObject() {
        Edge.of(1, "TRAYS are MISSING");
        for (int t = 0; t < 4; t++) {
            int tray = t;
            PinchedBill x = new PinchedBill();
            Edge.dueThrow("judge", IllegalStateException.class, () -> x.judge(tray, 0));
            Edge.dueThrow("perform", IllegalStateException.class, () -> x.perform(tray));
            Edge.dueThrow("seen", IllegalStateException.class, () -> x.seen(tray));
            Edge.dueThrow("seenAt", IllegalStateException.class, () -> x.seenAt(tray, 0));
            Edge.dueThrow("ask", IllegalStateException.class, () -> x.ask(tray));
            Edge.dueThrow("write", IllegalStateException.class, () -> x.write(tray, 0, 0));
            Edge.dueThrow("copy", IllegalStateException.class, () -> x.copy(tray, 0));
        }
        Edge.of(1, "1 LINE, BILL 0, no PEOPLE");
        PinchedBill x = new PinchedBill();
        int[] counts = {0, 1, 0, 0, 0, 10, 0, 0};
        for (int what = 0; what < counts.length; what++) {
            Edge.due("count(" + what + ")", x.count(what), counts[what]);
        }
        Edge.due("bill()", x.bill(), 0);
        Edge.due("spoke()", x.spoke(), -1);
        Edge.due("next()", x.next(), -1);
        Edge.dueThrow("person(0, 0)", NoSuchElementException.class, () -> x.person(0, 0));
        Edge.due("draft(900)", x.draft(900), 0);
        Edge.due("draft(910)", x.draft(910), -1);
        Edge.of(1, "an empty tape");
        Edge.dueThrow("house(1)", IllegalArgumentException.class, () -> x.house(1));
        Edge.due("house(0)", x.house(0), -12);
        Edge.due("fault(1)", x.fault(1), 0);
    }

    private static void highestFirst() {
        Edge.of(2, "Twenty bytes come behind those on the tape, the highest of each int first: how many it has");
        PinchedBill x = new PinchedBill();
        for (int place = 0; place < 40; place++) {
            int[] v = {BLANKS, BLANKS, BLANKS, BLANKS, BLANKS, BLANKS, BLANKS, BLANKS, BLANKS, BLANKS};
            int shift = 24 - place % 4 * 8;
            v[place / 4] = BLANKS & ~(255 << shift) | '#' << shift;
            Edge.due("the first feed", x.feed(v[0], v[1], v[2], v[3], v[4]), 20);
            Edge.due("the second feed", x.feed(v[5], v[6], v[7], v[8], v[9]), 40);
            Edge.due("house(40)", x.house(40), -11);
            Edge.due("fault(1)", x.fault(1), place);
        }
    }

    private static void fullTape() {
        Edge.of(2, "NONE, and nothing changes, if there would be more than 900");
        PinchedBill x = new PinchedBill();
        byte[] text = Check.bytes("house lines 2;" + "bill 1 2;".repeat(98) + "    ");
        Edge.due("the text's length", text.length, 900);
        for (int i = 0; i < 45; i++) {
            Edge.due("feed " + i, x.feed(Check.four(text, 20 * i), Check.four(text, 20 * i + 4), Check.four(text, 20 * i + 8),
                    Check.four(text, 20 * i + 12), Check.four(text, 20 * i + 16)), 20 * i + 20);
        }
        for (int i = 0; i < 3; i++) {
            Edge.due("one feed more", x.feed(0, 0, 0, 0, 0), -1);
            Edge.due("the tape has", x.count(7), 900);
        }
        Edge.dueThrow("house(901)", IllegalArgumentException.class, () -> x.house(901));
        Edge.due("house(900)", x.house(900), 99);
        Edge.due("feed behind it", x.feed(0, 0, 0, 0, 0), 20);
    }

    private static void firstBytes() {
        Edge.of(3, "The first n bytes of the tape (which is empty then) are THE HOUSE");
        PinchedBill x = new PinchedBill();
        Check.feed(x, Check.bytes("house lines 2;bill 1 2;#"));
        Edge.due("house(14)", x.house(14), 1);
        Edge.due("bill", x.bill(), 0);
        Edge.due("the tape is empty", x.count(7), 0);
        Edge.dueThrow("house(1)", IllegalArgumentException.class, () -> x.house(1));
        Check.feed(x, Check.bytes("house lines 2;bill 1 2;#"));
        Edge.due("house(23)", x.house(23), 2);
        Edge.due("bill", x.bill(), 120);
        Check.feed(x, Check.bytes("house lines 2;bill 1 2;#"));
        Edge.due("house(24)", x.house(24), -11);
        Edge.due("the tape is empty behind a fault", x.count(7), 0);
        Check.feed(x, Check.bytes("house lines 3;bill 4 5 6;  "));
        Edge.due("the whole tape", x.house(40), 2);
        Edge.due("feed then", x.feed(BLANKS, BLANKS, BLANKS, BLANKS, BLANKS), 20);
        Edge.due("what was there ahead is gone", x.house(20), -12);
        Edge.due("at the text's length", x.fault(1), 20);
        Edge.of(3, "nobody SPOKE, no DEEDS: how many LINES of text (house, too)");
        PinchedBill y = Check.housed(EIGHT);
        y.steps(3);
        y.send(1);
        y.draft(100);
        y.steps(1);
        Edge.due("house", Check.tell(y, EIGHT), 9);
        Edge.due("spoke", y.spoke(), -1);
        Edge.due("next", y.next(), 0);
        Edge.due("deeds", y.count(6), 0);
        Edge.due("all sit", y.count(3), 255);
        Edge.dueThrow("undo(1)", IllegalArgumentException.class, () -> y.undo(1));
        Edge.due("house alone", Check.tell(y, "house lines 1;"), 1);
    }

    /** All that a house and its laws tell, in one number. */
    private static long told(PinchedBill x) {
        long all = x.bill();
        for (int what = 0; what < 6; what++) {
            all = all * 31 + x.count(what);
        }
        for (int p = 0; p < x.count(2); p++) {
            for (int what = 0; what < 6; what++) {
                all = all * 31 + x.person(p, what);
            }
            all = all * 31 + x.spoken(0, p);
            all = all * 31 + x.spoken(900, p);
        }
        for (int b = 0; b < 1000; b += 300) {
            all = all * 31 + x.pinched(b);
            all = all * 31 + x.ends(b);
            all = all * 31 + x.weighty(b);
            all = all * 31 + x.chance(b, 0);
            all = all * 31 + x.seats(b, 900, 1);
            all = all * 31 + x.into(b);
        }
        return all * 31 + x.longest();
    }

    private static void oneHouseAfterAnother() {
        Edge.of(3, "are THE HOUSE");
        String longLaw = "0-1" + "+1-1".repeat(100);
        String[] texts = {"house lines 3;" + "person 9 8 7 temper 3;".repeat(8) + "pinches:one<9;changes:1;bill 1 2 3;", "house lines 1;",
            "house lines 1;person 4;", "house lines 2;person 4 5 out;person 3 3;pinches:" + longLaw + "<0;", "house lines 2;person 6 6;changes:"
            + longLaw + ";", "house lines 1;person 9;pinches:one<who+" + longLaw + "+7;", "house lines 3;person 2 2 2 out;bill 9 9 9;", THREE};
        PinchedBill[] fresh = new PinchedBill[texts.length];
        long[] due = new long[texts.length];
        for (int i = 0; i < texts.length; i++) {
            fresh[i] = Check.housed(texts[i]);
            due[i] = told(fresh[i]);
        }
        for (int i = 0; i < texts.length; i++) {
            for (int k = 0; k < texts.length; k++) {
                PinchedBill x = Check.housed(texts[i]);
                told(x);
                Check.tell(x, texts[k]);
                Edge.due("the house " + texts[k] + " behind " + texts[i], told(x), due[k]);
                Check.tell(x, texts[i] + "#");
                Edge.due("the house " + texts[k] + " with a fault behind it", told(x), due[k]);
            }
        }
        for (int i = 0; i < texts.length; i++) {
            fresh[i].image(0);
            Check.tell(fresh[i], texts[(i + 1) % texts.length]);
            told(fresh[i]);
            fresh[i].restore(0);
            Edge.due("the house " + texts[i] + " restored", told(fresh[i]), due[i]);
        }
        PinchedBill x = new PinchedBill();
        for (int i = 0; i < 5; i++) {
            Edge.due("long laws, one behind another", Check.tell(x, "house lines 1;person 0;changes:0-1" + "+1-1".repeat(150) + ";"), 3);
            Edge.due("they still count", x.spoken(500, 0), 400);
        }
    }

    private static void faultsAnswered() {
        Edge.of(3, "-10 less the FAULT");
        PinchedBill x = new PinchedBill();
        Edge.due("kind 1", Check.tell(x, "#"), -11);
        Edge.due("kind 2", Check.tell(x, ";"), -12);
        Edge.due("kind 3", Check.tell(x, "house lines 9;"), -13);
        Edge.due("kind 4", Check.tell(x, EIGHT + "person 9;"), -14);
    }

    private static void allStays() {
        Edge.of(3, "(all stays)");
        for (String text : new String[] {"#", ";", "house lines 4;", EIGHT + "person 9;", "house lines 3;person 1 1 1;bill 1 2 3;#",
            "house lines 3;pinches:1=1;changes:1;bill 1 2"}) {
            PinchedBill x = Check.housed(THREE);
            x.image(1);
            x.steps(1);
            x.call(2);
            Check.fillTray(x, 2, 3, 12345678901L);
            Edge.due("has a fault", Check.tell(x, text) < -10 ? 1 : 0, 1);
            Edge.due("bill", x.bill(), 100);
            Edge.due("spoke", x.spoke(), 0);
            Edge.due("who sits", x.count(3), 7);
            Edge.due("lines of text, of a bill, people, deeds", x.count(0) * 1000 + x.count(1) * 100 + x.count(2) * 10 + x.count(6), 5132);
            Edge.due("marks", x.person(0, 0) * 100 + x.person(1, 0) * 10 + x.person(2, 0), 352);
            Edge.due("temper", x.person(1, 3), 5);
            Edge.due("pinched", x.pinched(100), 7);
            Edge.due("spoken", x.spoken(900, 0), 800);
            Edge.due("ends", x.ends(0), 500);
            Edge.due("a tray", x.judge(2, 1), 1);
            Edge.due("undone", x.undo(2), 0);
            x.restore(1);
            Edge.due("an image", x.bill(), 0);
        }
    }

    private static void wrongLengths() {
        Edge.of(3, "IllegalArgumentException: n is below 0 or above what it has.");
        PinchedBill x = Check.housed(THREE);
        Check.feed(x, Check.bytes("house lines 2;"));
        for (int n : new int[] {-1, -20, 21, 900, 901, FAR[0], FAR[1], FAR[2], FAR[3]}) {
            Edge.dueThrow("house(" + n + ")", IllegalArgumentException.class, () -> x.house(n));
        }
        Edge.due("the tape stays", x.count(7), 20);
        Edge.due("the house stays", x.count(0), 5);
        Edge.due("house(20)", x.house(20), 1);
    }

    private static void faultAsked() {
        Edge.of(4, "what 0: the FAULT (0 without, and at first), 1: its place (NONE without)");
        PinchedBill x = new PinchedBill();
        Edge.due("fault(0) at first", x.fault(0), 0);
        Edge.due("fault(1) at first", x.fault(1), -1);
        Check.tell(x, "house lines 1;#");
        Edge.due("fault(0)", x.fault(0), 1);
        Edge.due("fault(1)", x.fault(1), 14);
        Edge.of(4, "Of the latest house() that threw nothing");
        for (int n : new int[] {-1, 1, FAR[0], FAR[3]}) {
            Edge.dueThrow("house(" + n + ")", IllegalArgumentException.class, () -> x.house(n));
            Edge.due("fault(0)", x.fault(0), 1);
            Edge.due("fault(1)", x.fault(1), 14);
        }
        Check.tell(x, "#");
        Edge.due("fault(1), the first place", x.fault(1), 0);
        Check.tell(x, THREE);
        Edge.due("fault(0) without", x.fault(0), 0);
        Edge.due("fault(1) without", x.fault(1), -1);
        Edge.of(4, "NONE for others.");
        Check.tell(x, "#");
        for (int what : new int[] {-1, 2, 3, FAR[0], FAR[3]}) {
            Edge.due("fault(" + what + ")", x.fault(what), -1);
        }
    }

    private static void people() {
        Edge.of(5, "its MARKS (0 those it hasn't)");
        Edge.due("one line, head", Check.housed("house lines 1;person 7;").person(0, 1), 0);
        Edge.due("one line, height", Check.housed("house lines 1;person 7;").person(0, 2), 0);
        Edge.due("two lines, head", Check.housed("house lines 2;person 7 8;").person(0, 1), 8);
        Edge.due("two lines, height", Check.housed("house lines 2;person 7 8;").person(0, 2), 0);
        Edge.due("three lines, height", Check.housed("house lines 3;person 7 8 9;").person(0, 2), 9);
        PinchedBill y = Check.housed("house lines 3;person 7 8 9;");
        Check.tell(y, "house lines 1;person 1;");
        Edge.due("marks of an earlier house are gone", y.person(0, 1) + y.person(0, 2), 0);
        Edge.of(5, "4: 1 if it sits, else 0, 5: 1 if the BILL PINCHES it (whether it sits or not), else 0");
        PinchedBill x = Check.housed("house lines 1;person 3;person 3 out;person 2;person 2 out;bill 2;");
        for (int p = 0; p < 4; p++) {
            Edge.due("sits " + p, x.person(p, 4), 1 - p % 2);
            Edge.due("pinched " + p, x.person(p, 5), p < 2 ? 1 : 0);
        }
        Edge.of(5, "NoSuchElementException: no such PERSON (as everywhere); IllegalArgumentException: another what.");
        PinchedBill eight = Check.housed(EIGHT);
        Edge.due("the eighth", eight.person(7, 0), 9);
        for (int p : new int[] {-1, 8, 9, FAR[0], FAR[3]}) {
            Edge.dueThrow("person(" + p + ", 0)", NoSuchElementException.class, () -> eight.person(p, 0));
            Edge.dueThrow("person(" + p + ", 6)", NoSuchElementException.class, () -> eight.person(p, 6));
            Edge.dueThrow("spoken(0, " + p + ")", NoSuchElementException.class, () -> eight.spoken(0, p));
            Edge.dueThrow("share(0, " + p + ", 1)", NoSuchElementException.class, () -> eight.share(0, p, 1));
        }
        for (int p = 4; p < 9; p++) {
            int no = p;
            Edge.dueThrow("person(" + no + ", 0) of four", NoSuchElementException.class, () -> x.person(no, 0));
        }
        for (int what : new int[] {-1, 6, 10, FAR[0], FAR[3]}) {
            Edge.dueThrow("person(0, " + what + ")", IllegalArgumentException.class, () -> eight.person(0, what));
        }
    }

    private static void nobodyAndNone() {
        Edge.of(6, "The BILL.");
        PinchedBill x = Check.housed("house lines 3;person 9 9 9;bill 9 9 8;");
        Edge.due("as told", x.bill(), 998);
        Edge.of(7, "NONE: nobody.");
        Edge.due("at first", x.spoke(), -1);
        Edge.due("a law: steps", x.steps(5), 0);
        Edge.due("a law: nobody speaks", x.spoke(), -1);
        x.draft(899);
        x.steps(1);
        Edge.due("one spoke", x.spoke(), 0);
        x.draft(999);
        Edge.due("behind a draft", x.spoke(), -1);
        x.undo(1);
        Edge.due("the draft undone", x.spoke(), 0);
        x.undo(1);
        Edge.due("the step undone", x.spoke(), -1);
        Edge.of(8, "NONE: it is a LAW.");
        Edge.due("no people", new PinchedBill().next(), -1);
        PinchedBill y = Check.housed("house lines 1;person 5;bill 5;");
        Edge.due("hat is as one", y.next(), -1);
        y.draft(400);
        Edge.due("hat is above one", y.next(), 0);
        Edge.of(Edge.TERMS, "It is a LAW, if it PINCHES nobody who sits.");
        y.send(0);
        Edge.due("who is pinched doesn't sit", y.next(), -1);
        Edge.due("ends", y.ends(0), 0);
        y.call(0);
        Edge.due("it sits", y.next(), 0);
        Edge.of(Edge.TERMS, "(without one: if hat is above one)");
        PinchedBill z = Check.housed("house lines 3;person 5 9 9;");
        Edge.due("hat 5, one 4", z.pinched(499), 1);
        Edge.due("hat 5, one 5", z.pinched(500), 0);
        Edge.due("hat 5, one 6", z.pinched(600), 0);
        Edge.due("hat 0, one 0", Check.housed("house lines 1;person 0;").pinched(0), 0);
        Edge.due("hat 9, one 8", Check.housed("house lines 1;person 9;").pinched(800), 1);
    }

    private static void nextSpeakers() {
        Edge.of(Edge.TERMS, "(behind the last PERSON PERSON 0 again; who SPOKE last comes last; at first, behind a draft: PERSON 0 first)");
        PinchedBill x = Check.housed("house lines 1;" + "person 0;".repeat(8) + "pinches:1=1;");
        for (int i = 0; i < 17; i++) {
            Edge.due("next", x.next(), i % 8);
            x.steps(1);
            Edge.due("spoke", x.spoke(), i % 8);
        }
        x.steps(7);
        Edge.due("the last spoke", x.spoke(), 7);
        for (int p = 0; p < 7; p++) {
            x.send(p);
        }
        Edge.due("who spoke last comes last, but comes", x.next(), 7);
        x.call(6);
        Edge.due("behind the last", x.next(), 6);
        x.send(7);
        x.call(0);
        Edge.due("who spoke last is out", x.next(), 0);
        x.draft(300);
        Edge.due("behind a draft", x.next(), 0);
        x.send(0);
        Edge.due("the first who sits", x.next(), 6);
        x.call(7);
        x.steps(1);
        Edge.due("behind 6", x.next(), 7);
        x.draft(300);
        Edge.due("the same bill drafted", x.next(), 6);
        x.undo(1);
        Edge.due("the draft undone", x.next(), 7);
        x.call(3);
        Edge.due("one called in ahead waits", x.next(), 7);
        x.steps(1);
        Edge.due("and comes behind the last", x.next(), 3);
    }

    private static void toldBills() {
        Edge.of(9, "IllegalArgumentException: no such BILL (as everywhere).");
        for (int lines = 1; lines <= 3; lines++) {
            int unit = lines == 1 ? 100 : lines == 2 ? 10 : 1;
            PinchedBill x = Check.housed("house lines " + lines + ";");
            for (int b : new int[] {0, unit, 1000 - unit}) {
                Edge.due("pinched(" + b + ") of " + lines, x.pinched(b), 0);
            }
            for (int b : new int[] {-1, -unit, -100, 1000, 1000 + unit, FAR[0], FAR[1], FAR[2], FAR[3]}) {
                Edge.dueThrow("pinched(" + b + ") of " + lines, IllegalArgumentException.class, () -> x.pinched(b));
            }
            for (int b : new int[] {1, 10, 101, 110, 111, 990, 999}) {
                if (b % unit != 0) {
                    Edge.dueThrow("pinched(" + b + ") of " + lines, IllegalArgumentException.class, () -> x.pinched(b));
                }
            }
        }
        Edge.of(9, "of those who sit, as bits");
        PinchedBill x = Check.housed(EIGHT);
        Edge.due("all eight", x.pinched(0), 255);
        Edge.due("none", x.pinched(900), 0);
        x.send(7);
        Edge.due("without the eighth", x.pinched(0), 127);
        x.send(0);
        Edge.due("without the first", x.pinched(0), 126);
    }

    private static void spokenTo() {
        Edge.of(10, "if a PERSON (sits or not, PINCHED or not) SPEAKS to it");
        PinchedBill x = Check.housed("house lines 1;person 5;person 5 out;");
        for (int p = 0; p < 2; p++) {
            Edge.due("pinched", x.spoken(400, p), 500);
            Edge.due("at its mark", x.spoken(500, p), 500);
            Edge.due("not pinched", x.spoken(600, p), 500);
        }
        Edge.due("the bill stays", x.bill(), 0);
        Edge.due("nobody spoke", x.spoke(), -1);
        Edge.of(10, "NoSuchElementException; IllegalArgumentException.");
        for (int no : new int[] {-1, 1, 10, 1000, FAR[0], FAR[3]}) {
            Edge.dueThrow("spoken(" + no + ", 0)", IllegalArgumentException.class, () -> x.spoken(no, 0));
            Edge.dueThrow("spoken(" + no + ", 2)", NoSuchElementException.class, () -> x.spoken(no, 2));
        }
        Edge.of(Edge.TERMS, "is 1 less, if the law changes is below 0, 1 more, if above, else the same, 0 to 9 always");
        int[] ways = {-1, 0, 1};
        for (int way : ways) {
            PinchedBill y = Check.housed("house lines 3;person 0 0 0;changes:" + (way + 1) + "-1;");
            Edge.due("from 0 and 9, way " + way, y.spoken(90, 0), way < 0 ? 80 : way == 0 ? 90 : 191);
            Edge.due("from 1 and 8, way " + way, y.spoken(181, 0), way < 0 ? 70 : way == 0 ? 181 : 292);
            Edge.due("from 0, way " + way, y.spoken(0, 0), way > 0 ? 111 : 0);
            Edge.due("from 9, way " + way, y.spoken(999, 0), way < 0 ? 888 : 999);
        }
        Edge.due("far below", Check.housed("house lines 1;person 0;changes:0-999*999*9;").spoken(500, 0), 400);
        Edge.due("far above", Check.housed("house lines 1;person 0;changes:999*999*9;").spoken(500, 0), 600);
        Edge.of(Edge.TERMS, "each FIGURE, all as they were ahead");
        PinchedBill y = Check.housed("house lines 3;person 0 0 0;changes:one+two+three-14;");
        Edge.due("the sum is 15 for each", y.spoken(933, 0), 944);
        Edge.due("the sum is 14 for each", y.spoken(932, 0), 932);
        Edge.due("the sum is 13 for each", y.spoken(922, 0), 811);
        Edge.of(Edge.TERMS, "(without one: nearer to its MARK of that LINE)");
        PinchedBill z = Check.housed("house lines 3;person 0 5 9;");
        Edge.due("from 9, 0, 0", z.spoken(900, 0), 811);
        Edge.due("from 1, 6, 8", z.spoken(168, 0), 59);
        Edge.due("there", z.spoken(59, 0), 59);
        Edge.of(Edge.TERMS, "line: 0, 1, 2.");
        Edge.due("line 0", Check.housed("house lines 3;person 0 0 0;changes:0-line;").spoken(555, 0), 544);
        Edge.due("line 1", Check.housed("house lines 3;person 0 0 0;changes:line-1;").spoken(555, 0), 456);
        Edge.due("line 2", Check.housed("house lines 3;person 0 0 0;changes:2-line;").spoken(555, 0), 665);
    }

    private static void holds(String truth, boolean want) {
        PinchedBill x = Check.housed("house lines 1;person 0;pinches:" + truth + ";");
        Edge.due(truth, x.pinched(0), want ? 1 : 0);
    }

    private static void sumsKept() {
        Edge.of(Edge.TERMS, "each + - * kept from -1,000,000 to 1,000,000");
        String most = "(999+1)*(999+1)";
        String oneLess = "999*999+999+999";
        String least = "(0-" + most + ")";
        String oneMore = "0-999*999-999-999";
        holds(oneLess + "<" + most, true);
        holds(oneLess + "+1=" + most, true);
        holds(oneMore + ">" + least, true);
        holds(oneMore + "-1=" + least, true);
        holds(most + "+1=" + most, true);
        holds(most + "+1-1=" + oneLess, true);
        holds(most + "+" + most + "-1=" + oneLess, true);
        holds(most + "-(0-1)-1=" + oneLess, true);
        holds(most + "-" + least + "-1=" + oneLess, true);
        holds(most + "*2-1=" + oneLess, true);
        holds(most + "*" + most + "-1=" + oneLess, true);
        holds(least + "*" + least + "-1=" + oneLess, true);
        holds(least + "-1+1=" + oneMore, true);
        holds(least + "+(0-1)+1=" + oneMore, true);
        holds(least + "+" + least + "+1=" + oneMore, true);
        holds(least + "-" + most + "+1=" + oneMore, true);
        holds(least + "*2+1=" + oneMore, true);
        holds(most + "*" + least + "+1=" + oneMore, true);
        holds(most + "*0=0", true);
        holds(most + "*" + most + "*0=0", true);
        holds("999*999*9*(0-1)=" + least, true);
        holds("999*999*9-999*999-999-999=1", true);
        Edge.of(Edge.TERMS, "not UNIT, [ TRUTH ], or SUM, one of = < >, SUM.");
        for (int a = 0; a < 3; a++) {
            holds("1=" + a, a == 1);
            holds("1<" + a, a > 1);
            holds("1>" + a, a < 1);
        }
        holds("0-1<0", true);
        holds("0>0-1", true);
        holds("not 1=1 and 1=2", false);
        holds("not[1=1 and 1=2]", true);
        Edge.of(Edge.TERMS, "one, two, three: its FIGURES, hat, head, height: MARKS of a PERSON, who: its number");
        PinchedBill x = Check.housed("house lines 1;" + "person 4;".repeat(8) + "pinches:who=7 or two+three+head+height>0;");
        Edge.due("those it hasn't are 0, the eighth is 7", x.pinched(900), 128);
        PinchedBill y = Check.housed("house lines 3;person 1 2 3;pinches:one*100+two*10+three=456 and hat*100+head*10+height=123;");
        Edge.due("each by itself", y.pinched(456), 1);
        Edge.due("each by itself", y.pinched(465) + y.pinched(546), 0);
    }

    private static String unit(boolean holds) {
        return holds ? "1=1" : "1=0";
    }

    private static void truths() {
        Edge.of(Edge.TERMS, "TRUTH: BOTH { or BOTH }; BOTH: UNIT { and UNIT }");
        for (int bits = 0; bits < 8; bits++) {
            boolean a = (bits & 1) != 0;
            boolean b = (bits & 2) != 0;
            boolean c = (bits & 4) != 0;
            String first = unit(a);
            String second = unit(b);
            String third = unit(c);
            holds(first + " and " + second + " or " + third, a && b || c);
            holds(first + " or " + second + " and " + third, a || b && c);
            holds(first + " or " + second + " or " + third, a || b || c);
            holds(first + " and " + second + " and " + third, a && b && c);
            holds("[" + first + " or " + second + "]and " + third, (a || b) && c);
            holds(first + " and[" + second + " or " + third + "]", a && (b || c));
            holds("not " + first + " and not " + second + " or not " + third, !a && !b || !c);
            holds("not not " + first + " and not[" + second + " or not " + third + "]", a && !(b || !c));
        }
        holds("1=0" + " or 1=0".repeat(80) + " or 1=1", true);
        holds("1=0" + " or 1=0".repeat(81), false);
        holds("1=1" + " and 1=1".repeat(70) + " and 1=0", false);
        holds("1=1" + " and 1=1".repeat(71), true);
        holds("not not not not not not 1=1", true);
        holds("not not not not not 1=1", false);
    }

    private static void sums() {
        Edge.of(Edge.TERMS, "SUM: TERM { + TERM | - TERM }; TERM: ATOM { * ATOM }; ATOM: N, ( SUM )");
        holds("10-3-2=5", true);
        holds("10-3+2=9", true);
        holds("10+3-2=11", true);
        holds("10-(3-2)=9", true);
        holds("10-(3+2)=5", true);
        holds("2+3*4=14", true);
        holds("2*3+4=10", true);
        holds("20-2*3*2=8", true);
        holds("(20-2)*3=54", true);
        holds("2*(3+4)*5=70", true);
        holds("((((((7))))))=7", true);
        holds("0-1-1*2+(3-(4-5))=1", true);
        holds("1" + "-1".repeat(300) + "=0-299", true);
        Edge.of(Edge.TERMS, "who, in changes line too");
        PinchedBill x = Check.housed("house lines 2;person 0 0;person 0 0;changes:line*2-who;");
        Edge.due("who 0", x.spoken(550, 0), 560);
        Edge.due("who 1", x.spoken(550, 1), 460);
    }

    private static void none() {
        Edge.of(Edge.TERMS, "The constants: `NONE = -1`: There is none.");
        Edge.due("NONE", PinchedBill.NONE, -1);
    }
}
