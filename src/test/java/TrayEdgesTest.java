import java.util.NoSuchElementException;

/** Edges of promises 43 to 48: empty and full trays, numbers cut, images of everything, counts. */
public final class TrayEdgesTest {
    private static final String THREE = "house lines 1;person 3;person 5 temper 5;person 2 out;bill 0;";
    private static final int[] FAR = {Integer.MIN_VALUE, Integer.MIN_VALUE + 1, Integer.MAX_VALUE - 1, Integer.MAX_VALUE};

    private TrayEdgesTest() {
    }

    public static void main(String[] args) {
        rows();
        traysRefused();
        cut();
        places();
        copied();
        copyRefused();
        imagesOfAll();
        imagesWithoutSome();
        noImage();
        counts();
        Edge.end(43, 48);
    }

    private static long laid(PinchedBill x, int tray, int sort, int many) {
        x.tray(tray, sort, many);
        return 0;
    }

    private static void rows() {
        Edge.of(43, "A TRAY is a row of so many 0s.");
        for (int tray = 0; tray < 4; tray++) {
            for (int sort = 0; sort < 4; sort++) {
                int t = tray;
                PinchedBill x = new PinchedBill();
                x.tray(tray, sort, 30);
                Edge.due("thirty 0s are thirty drafts", x.perform(tray), 30);
                Edge.due("of bill 0", x.bill(), 0);
                for (int i = 0; i < 30; i++) {
                    x.write(tray, i, 77);
                }
                Edge.due("written", x.perform(tray), 0);
                x.tray(tray, sort, 30);
                Edge.due("0s again", x.perform(tray), 30);
                x.write(tray, 0, 77);
                x.tray(tray, 3 - sort, 1);
                Edge.due("one 0", x.perform(tray), 1);
                Edge.dueThrow("one place", IndexOutOfBoundsException.class, () -> x.write(t, 1, 0));
                x.tray(tray, sort, 0);
                Edge.due("none, but not missing", x.perform(tray), 0);
                Edge.dueThrow("no place", IndexOutOfBoundsException.class, () -> x.write(t, 0, 0));
                x.tray(tray, sort, 3);
                Edge.due("three 0s, whatever was there", x.perform(tray), 3);
                for (int other = 0; other < 4; other++) {
                    int o = other;
                    if (other != tray) {
                        Edge.dueThrow("the others are missing", IllegalStateException.class, () -> x.perform(o));
                    }
                }
            }
        }
    }

    private static void traysRefused() {
        Edge.of(Edge.TERMS, "TRAYS 0 to 3 are MISSING at first, or rows of 0 to 30 numbers of 8 bits (sort 0), 16 (1), 32 (2), 64 (3).");
        PinchedBill x = new PinchedBill();
        Check.fillTray(x, 0, 3, 0, 55, 0);
        Edge.of(43, "NoSuchElementException: no such TRAY; IllegalArgumentException: no such sort, or not so many.");
        for (int t : new int[] {-1, 4, 5, FAR[0], FAR[3]}) {
            Edge.dueThrow("tray(" + t + ", 0, 1)", NoSuchElementException.class, () -> laid(x, t, 0, 1));
            Edge.dueThrow("tray(" + t + ", 4, 31)", NoSuchElementException.class, () -> laid(x, t, 4, 31));
        }
        for (int sort : new int[] {-1, 4, 8, FAR[0], FAR[3]}) {
            Edge.dueThrow("tray(0, " + sort + ", 1)", IllegalArgumentException.class, () -> laid(x, 0, sort, 1));
            Edge.dueThrow("tray(1, " + sort + ", 1)", IllegalArgumentException.class, () -> laid(x, 1, sort, 1));
        }
        for (int many : new int[] {-1, 31, 32, FAR[0], FAR[3]}) {
            Edge.dueThrow("tray(0, 0, " + many + ")", IllegalArgumentException.class, () -> laid(x, 0, 0, many));
            Edge.dueThrow("tray(1, 0, " + many + ")", IllegalArgumentException.class, () -> laid(x, 1, 0, many));
        }
        Edge.due("tray 0 is as it was", x.judge(0, 0), 1);
        Edge.due("of its sort", x.write(0, 2, Long.MAX_VALUE), Long.MAX_VALUE);
        Edge.dueThrow("of so many", IndexOutOfBoundsException.class, () -> x.write(0, 3, 0));
        Edge.dueThrow("tray 1 is missing", IllegalStateException.class, () -> x.perform(1));
    }

    private static void cut() {
        Edge.of(44, "A number comes to a place of a TRAY, cut to its sort: as it is there.");
        PinchedBill x = new PinchedBill();
        int[] bits = {8, 16, 32, 64};
        for (int sort = 0; sort < 4; sort++) {
            x.tray(sort, sort, 30);
            long most = -1L >>> 65 - bits[sort];
            long least = -most - 1;
            for (long v : new long[] {0, 1, -1, most, least, most - 1, least + 1}) {
                Edge.due(bits[sort] + " bits hold " + v, x.write(sort, 29, v), v);
            }
            if (sort < 3) {
                Edge.due("one above", x.write(sort, 0, most + 1), least);
                Edge.due("one below", x.write(sort, 0, least - 1), most);
                Edge.due("once round", x.write(sort, 0, (1L << bits[sort]) + 5), 5);
                Edge.due("all ones", x.write(sort, 0, (1L << bits[sort]) - 1), -1);
                Edge.due("the most of all", x.write(sort, 0, Long.MAX_VALUE), -1);
                Edge.due("the least of all", x.write(sort, 0, Long.MIN_VALUE), 0);
            }
        }
        PinchedBill y = new PinchedBill();
        y.tray(0, 0, 1);
        Edge.due("356 in 8 bits", y.write(0, 0, 356), 100);
        y.perform(0);
        Edge.due("bill 100 is drafted", y.bill(), 100);
        Edge.due("200 in 8 bits", y.write(0, 0, 200), -56);
        Edge.due("can't be", y.judge(0, 1), 1);
    }

    private static void places() {
        Edge.of(44, "IllegalStateException: it is MISSING; IndexOutOfBoundsException: it has no such place.");
        PinchedBill x = new PinchedBill();
        x.tray(0, 3, 30);
        x.tray(1, 3, 1);
        x.tray(2, 3, 0);
        Edge.due("the first of 30", x.write(0, 0, 5), 5);
        Edge.due("the last of 30", x.write(0, 29, 5), 5);
        Edge.due("the only one", x.write(1, 0, 5), 5);
        for (int place : new int[] {-1, 30, 31, FAR[0], FAR[3]}) {
            Edge.dueThrow("place " + place + " of 30", IndexOutOfBoundsException.class, () -> x.write(0, place, 5));
            Edge.dueThrow("place " + place + " of 1", IndexOutOfBoundsException.class, () -> x.write(1, place, 5));
            Edge.dueThrow("place " + place + " of 0", IndexOutOfBoundsException.class, () -> x.write(2, place, 5));
            Edge.dueThrow("missing", IllegalStateException.class, () -> x.write(3, place, 5));
            Edge.dueThrow("no such tray", NoSuchElementException.class, () -> x.write(4, place, 5));
            Edge.dueThrow("no such tray", NoSuchElementException.class, () -> x.write(-1, place, 5));
        }
        Edge.dueThrow("place 1 of 1", IndexOutOfBoundsException.class, () -> x.write(1, 1, 5));
        Edge.dueThrow("place 0 of 0", IndexOutOfBoundsException.class, () -> x.write(2, 0, 5));
    }

    private static void copied() {
        Edge.of(45, "What a told BILL is in 0, 1, 2 .. STEPS comes into a TRAY from its first place on, as many as it has places: how many.");
        PinchedBill x = Check.housed(THREE);
        int[] due = {0, 100, 200, 300, 400, 500};
        for (int many : new int[] {0, 1, 2, 29, 30}) {
            x.tray(0, 3, many);
            for (int i = 0; i < many; i++) {
                x.write(0, i, 77);
            }
            Edge.due("copy into " + many, x.copy(0, 0), many);
            Edge.due("all are bills now", x.perform(0), many);
            for (int i = 0; i < many && i < 10; i++) {
                Edge.due("place " + (many - 1 - i) + " of " + many, x.bill(), due[Math.min(5, many - 1 - i)]);
                x.undo(1);
            }
        }
        x.draft(0);
        x.tray(1, 0, 6);
        Edge.due("copy into 8 bits", x.copy(1, 0), 6);
        Edge.due("0, 100, then 200 cut: -56", x.judge(1, 0), 2);
        x.tray(1, 0, 1);
        x.copy(1, 600);
        Edge.due("600 cut to 8 bits is 88, no bill", x.judge(1, 1), 1);
        PinchedBill three = Check.housed("house lines 3;bill 1 0 0;");
        three.tray(2, 0, 2);
        Edge.due("255 cut to 8 bits is a step", three.copy(2, 255), 2);
        Edge.due("both are steps", three.perform(2) * 1000 + three.bill(), 2100);
    }

    private static void copyRefused() {
        Edge.of(45, "What a told BILL is");
        PinchedBill x = Check.housed(THREE);
        Check.fillTray(x, 0, 3, 55, 55);
        x.tray(1, 3, 0);
        for (int no : new int[] {-1, 1, 10, 999, 1000, FAR[0], FAR[3]}) {
            Edge.dueThrow("copy(0, " + no + ")", IllegalArgumentException.class, () -> x.copy(0, no));
            Edge.dueThrow("copy(1, " + no + "), no places", IllegalArgumentException.class, () -> x.copy(1, no));
            Edge.dueThrow("copy(2, " + no + ")", IllegalStateException.class, () -> x.copy(2, no));
            Edge.dueThrow("copy(4, " + no + ")", NoSuchElementException.class, () -> x.copy(4, no));
            Edge.dueThrow("copy(-1, " + no + ")", NoSuchElementException.class, () -> x.copy(-1, no));
        }
        Edge.due("the tray is as it was", x.judge(0, 0), 0);
        Edge.due("bill and who spoke are as they were", x.bill() + x.spoke(), -1);
    }

    private static void imagesOfAll() {
        Edge.of(47, "All is as in an IMAGE.");
        for (int i = 0; i < 3; i++) {
            PinchedBill x = Check.housed("house lines 2;person 1 9 temper 3;person 8 2 out;pinches:one<hat;changes:line-who;bill 0 5;");
            x.steps(1);
            x.call(1);
            Edge.of(46, "An IMAGE is made.");
            x.image(i);
            Edge.due("nothing else happens", x.bill() * 10 + x.count(6), 602);
            Edge.of(47, "All is as in an IMAGE.");
            Check.tell(x, "house lines 3;person 4 4 4;bill 4 4 3;");
            x.steps(1);
            x.send(0);
            x.restore(i);
            Edge.due("lines of text", x.count(0), 6);
            Edge.due("lines of a bill", x.count(1), 2);
            Edge.due("people", x.count(2), 2);
            Edge.due("who sits", x.count(3), 3);
            Edge.due("deeds", x.count(6), 2);
            Edge.due("bill", x.bill(), 60);
            Edge.due("spoke", x.spoke(), 0);
            Edge.due("next", x.next(), 1);
            Edge.due("marks", x.person(0, 0) * 1000 + x.person(0, 1) * 100 + x.person(1, 0) * 10 + x.person(1, 1), 1982);
            Edge.due("tempers", x.person(0, 3) * 100 + x.person(1, 3), 310);
            Edge.due("pinches", x.pinched(0) * 100 + x.pinched(100) * 10 + x.pinched(800), 320);
            Edge.due("changes, who 0", x.spoken(550, 0), 560);
            Edge.due("changes, who 1", x.spoken(550, 1), 450);
            Edge.dueThrow("bills of two lines", IllegalArgumentException.class, () -> x.ends(443));
            Edge.due("undone: the call", x.undo(1) * 10 + x.count(3), 11);
            Edge.due("undone: the step", x.undo(1) * 10 + x.spoke(), -1);
            x.restore(i);
            Edge.due("restored once more", x.count(6) * 100 + x.count(3), 203);
        }
        PinchedBill many = Check.housed(THREE);
        for (int i = 1; i <= 9; i++) {
            many.draft(100 * i);
        }
        many.send(0);
        many.draft(0);
        many.steps(1);
        many.image(2);
        Check.tell(many, "house lines 1;person 9;person 9;");
        for (int i = 0; i < 12; i++) {
            many.steps(1);
        }
        many.restore(2);
        int[] bills = {0, 900, 900, 800, 700, 600, 500, 400, 300, 200};
        for (int i = 0; i < 10; i++) {
            Edge.due("undone", many.undo(1), 9 - i);
            Edge.due("bill then", many.bill(), bills[i]);
            Edge.due("who sits then", many.count(3), i < 2 ? 2 : 3);
            Edge.due("spoke then", many.spoke(), -1);
        }
        PinchedBill y = new PinchedBill();
        y.image(0);
        Check.tell(y, THREE);
        y.image(1);
        y.restore(0);
        Edge.due("no house", y.count(0) * 100 + y.count(2) * 10 + y.count(1), 1);
        y.restore(1);
        Edge.due("an image made later is still there", y.count(0) * 100 + y.count(2) * 10 + y.count(1), 531);
    }

    private static void imagesWithoutSome() {
        Edge.of(Edge.TERMS, "IMAGES 0 to 2: all but the tape, the FAULT and TRAYS, as it was (none at first).");
        PinchedBill x = Check.housed(THREE);
        Check.fillTray(x, 0, 1, 100);
        x.image(0);
        Check.tell(x, "house lines 1;#");
        x.feed(0x686F7573, 0x65206C69, 0x6E657320, 0x333B2020, 0x20202020);
        x.write(0, 0, 200);
        Check.fillTray(x, 1, 1, 1000);
        x.restore(0);
        Edge.due("the tape is not restored", x.count(7), 20);
        Edge.due("the fault is not restored", x.fault(0) * 100 + x.fault(1), 114);
        Edge.due("a tray is not restored", x.judge(0, 2), 200);
        Edge.due("a tray made later is not missing", x.judge(1, 3), 2);
        Edge.due("what is on the tape is still a house", x.house(20), 1);
        Edge.due("of three lines", x.count(1), 3);
    }

    private static long imaged(PinchedBill x, int i) {
        x.image(i);
        return 0;
    }

    private static long restored(PinchedBill x, int i) {
        x.restore(i);
        return 0;
    }

    private static void noImage() {
        Edge.of(46, "NoSuchElementException: no such one.");
        PinchedBill x = Check.housed(THREE);
        for (int i : new int[] {-1, 3, 4, FAR[0], FAR[3]}) {
            Edge.dueThrow("image(" + i + ")", NoSuchElementException.class, () -> imaged(x, i));
            Edge.of(47, "NoSuchElementException: no such one; IllegalStateException: none was made.");
            Edge.dueThrow("restore(" + i + ")", NoSuchElementException.class, () -> restored(x, i));
        }
        for (int i = 0; i < 3; i++) {
            int no = i;
            Edge.dueThrow("restore(" + i + ")", IllegalStateException.class, () -> restored(x, no));
        }
        x.image(1);
        Edge.dueThrow("restore(0)", IllegalStateException.class, () -> restored(x, 0));
        Edge.dueThrow("restore(2)", IllegalStateException.class, () -> restored(x, 2));
        Edge.due("restore(1)", restored(x, 1), 0);
        x.draft(700);
        x.image(1);
        x.draft(800);
        x.restore(1);
        Edge.due("the later image of the same number", x.bill(), 700);
    }

    private static void counts() {
        Edge.of(48, "0 LINES of text, 1 LINES of a BILL, 2 PEOPLE, 3 who sits, as bits, 4 how many sit, 5 BILLS in all, "
                + "6 DEEDS that can be UNDONE, 7 bytes on the tape; NONE for others.");
        PinchedBill x = Check.housed("house lines 3;" + "person 1 1 1;".repeat(7) + "person 1 1 1 out;");
        x.steps(1);
        x.send(0);
        x.feed(0, 0, 0, 0, 0);
        int[] due = {9, 3, 8, 126, 6, 1000, 2, 20};
        for (int what = 0; what < due.length; what++) {
            Edge.due("count(" + what + ")", x.count(what), due[what]);
        }
        for (int what : new int[] {-1, 8, 9, 10, FAR[0], FAR[1], FAR[2], FAR[3]}) {
            Edge.due("count(" + what + ")", x.count(what), -1);
        }
        for (int lines = 1; lines <= 3; lines++) {
            PinchedBill y = Check.housed("house lines " + lines + ";");
            Edge.due("bills of " + lines, y.count(5), lines == 1 ? 10 : lines == 2 ? 100 : 1000);
            Edge.due("nobody sits", y.count(3) + y.count(4), 0);
        }
        PinchedBill eight = Check.housed("house lines 1;" + "person 1;".repeat(8));
        Edge.due("all eight, as bits", eight.count(3), 255);
        Edge.due("all eight", eight.count(4), 8);
    }
}
