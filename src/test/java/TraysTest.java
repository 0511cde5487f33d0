import java.util.NoSuchElementException;

/** Promises 43 to 48: trays, images, counts. */
public final class TraysTest {
    private static final String THREE = "house lines 1;person 3;person 5 temper 5;person 2 out;bill 0;";

    private TraysTest() {
    }

    public static void main(String[] args) {
        trays();
        writing();
        copying();
        images();
        imagesApart();
        counts();
        Check.end();
    }

    private static long trayed(PinchedBill x, int tray, int sort, int many) {
        x.tray(tray, sort, many);
        return 0;
    }

    private static void trays() {
        PinchedBill x = new PinchedBill();
        Check.dueThrow("43: tray -1", NoSuchElementException.class, () -> trayed(x, -1, 9, 99));
        Check.dueThrow("43: tray 4", NoSuchElementException.class, () -> trayed(x, 4, 0, 0));
        Check.dueThrow("43: sort -1", IllegalArgumentException.class, () -> trayed(x, 0, -1, 0));
        Check.dueThrow("43: sort 4", IllegalArgumentException.class, () -> trayed(x, 0, 4, 0));
        Check.dueThrow("43: many -1", IllegalArgumentException.class, () -> trayed(x, 0, 0, -1));
        Check.dueThrow("43: many 31", IllegalArgumentException.class, () -> trayed(x, 0, 0, 31));
        Check.dueThrow("43: still missing", IllegalStateException.class, () -> x.perform(0));
        Check.due("43: 30", trayed(x, 3, 3, 30), 0);
        Check.due("43: 30 zeros are drafts of 0", x.perform(3), 30);
        x.write(3, 29, 5);
        Check.due("43: as written", x.perform(3), 29);
        Check.due("43: again", trayed(x, 3, 0, 30), 0);
        Check.due("43: zeros again", x.perform(3), 30);
        Check.due("43: none", trayed(x, 3, 0, 0), 0);
        Check.due("43: not missing", x.perform(3), 0);
    }

    private static void writing() {
        PinchedBill x = new PinchedBill();
        Check.dueThrow("44: no such tray", NoSuchElementException.class, () -> x.write(4, 0, 0));
        Check.dueThrow("44: missing", IllegalStateException.class, () -> x.write(0, -1, 0));
        for (int sort = 0; sort < 4; sort++) {
            x.tray(sort, sort, 2);
        }
        Check.dueThrow("44: place -1", IndexOutOfBoundsException.class, () -> x.write(0, -1, 0));
        Check.dueThrow("44: place 2", IndexOutOfBoundsException.class, () -> x.write(0, 2, 0));
        long v = 0x123456789ABCDEF0L;
        Check.due("44: 8 bits", x.write(0, 1, v), (byte) 0xF0);
        Check.due("44: 16 bits", x.write(1, 1, v), (short) 0xDEF0);
        Check.due("44: 32 bits", x.write(2, 1, v), 0x9ABCDEF0);
        Check.due("44: 64 bits", x.write(3, 1, v), v);
        Check.due("44: 8 bits, 127", x.write(0, 0, 127), 127);
        Check.due("44: 8 bits, 128", x.write(0, 0, 128), -128);
        Check.due("44: 16 bits, 32768", x.write(1, 0, 32768), -32768);
        Check.due("44: 32 bits", x.write(2, 0, 1L << 31), -(1L << 31));
        Check.due("44: 64 bits", x.write(3, 0, Long.MIN_VALUE), Long.MIN_VALUE);
        x.tray(0, 0, 2);
        Check.dueThrow("44: still no place 2", IndexOutOfBoundsException.class, () -> x.write(0, 2, 0));
        Check.due("44: cut, it is a step", x.write(0, 0, 255), -1);
        Check.due("44: judged as it is there", x.judge(0, 0), -1);
    }

    private static void copying() {
        PinchedBill x = Check.housed(THREE);
        Check.dueThrow("45: no such tray", NoSuchElementException.class, () -> x.copy(-1, 5));
        Check.dueThrow("45: missing", IllegalStateException.class, () -> x.copy(0, 5));
        x.tray(0, 1, 8);
        Check.dueThrow("45: bill", IllegalArgumentException.class, () -> x.copy(0, 5));
        Check.due("45: copy", x.copy(0, 0), 8);
        Check.due("45: is what is seen of it", x.seen(0), 1);
        Check.due("45: from its first place on", x.seenAt(0, 0), 0);
        Check.due("45: performed, all are drafts", x.perform(0), 8);
        Check.due("45: the last is the law", x.bill(), 500);
        x.undo(4);
        Check.due("45: the fourth", x.bill(), 300);
        x.tray(1, 0, 3);
        Check.due("45: cut to 8 bits", x.copy(1, 0), 3);
        Check.due("45: 0, 100, -56", x.judge(1, 0), 2);
        x.tray(2, 3, 0);
        Check.due("45: no places", x.copy(2, 0), 0);
    }

    private static long imaged(PinchedBill x, int i) {
        x.image(i);
        return 0;
    }

    private static long restored(PinchedBill x, int i) {
        x.restore(i);
        return 0;
    }

    private static void images() {
        PinchedBill x = Check.housed(THREE);
        x.steps(1);
        x.send(1);
        Check.due("46: image(2)", imaged(x, 2), 0);
        Check.dueThrow("46: image(3)", NoSuchElementException.class, () -> imaged(x, 3));
        Check.dueThrow("46: image(-1)", NoSuchElementException.class, () -> imaged(x, -1));
        Check.dueThrow("47: restore(3)", NoSuchElementException.class, () -> restored(x, 3));
        Check.dueThrow("47: restore(-1)", NoSuchElementException.class, () -> restored(x, -1));
        Check.dueThrow("47: none was made", IllegalStateException.class, () -> restored(x, 0));
        Check.due("47: ends(0) ahead", x.ends(0), 300);
        Check.due("47: laws() ahead", x.laws(), 7);
        x.tray(0, 1, 1);
        x.write(0, 0, 770);
        Check.tell(x, "house lines 2;person 9 9 temper 4;pinches:one<two;changes:1-line*2;bill 0 7;");
        Check.due("47: another house", x.ends(70), 430);
        Check.tell(x, "house");
        x.feed(0, 0, 0, 0, 0);
        Check.due("47: restore(2)", restored(x, 2), 0);
        Check.due("47: bill", x.bill(), 100);
        Check.due("47: spoke", x.spoke(), 0);
        Check.due("47: who sits", x.count(3), 1);
        Check.due("47: people", x.count(2), 3);
        Check.due("47: lines of text", x.count(0), 5);
        Check.due("47: lines", x.count(1), 1);
        Check.due("47: marks", x.person(1, 0), 5);
        Check.due("47: temper", x.person(1, 3), 5);
        Check.due("47: deeds", x.count(6), 2);
        Check.due("47: laws", x.laws(), 7);
        Check.due("47: ends", x.ends(0), 300);
        Check.due("47: not the tape", x.count(7), 20);
        Check.due("47: not the fault", x.fault(0), 2);
        Check.due("47: not its place", x.fault(1), 5);
        Check.due("47: not the trays", x.judge(0, 1), 1);
        Check.due("47: undone", x.undo(2), 0);
        Check.due("47: who sits then", x.count(3), 3);
        Check.due("47: bill then", x.bill(), 0);
    }

    private static void imagesApart() {
        PinchedBill x = Check.housed(THREE);
        x.image(0);
        x.draft(300);
        x.image(1);
        x.restore(0);
        Check.due("47: the first", x.bill(), 0);
        x.restore(1);
        Check.due("47: the second, made behind the first", x.bill(), 300);
        Check.due("47: its deeds", x.count(6), 1);
        x.draft(900);
        Check.due("47: an image stays as it was", x.count(6), 2);
        x.restore(1);
        Check.due("47: an image stays as it was", x.bill(), 300);
        x.restore(1);
        Check.due("47: twice", x.count(6), 1);
        x.draft(700);
        x.image(1);
        x.restore(0);
        x.restore(1);
        Check.due("46: made anew", x.bill(), 700);
        x.draft(100);
        x.steps(1);
        x.send(0);
        x.image(2);
        Check.tell(x, "house lines 1;");
        x.draft(200);
        x.draft(300);
        x.draft(500);
        x.draft(600);
        x.restore(2);
        Check.due("47: undone then, who sits", x.undo(1) * 100 + x.count(3), 403);
        Check.due("47: undone then, spoke", x.spoke(), 0);
        x.undo(1);
        Check.due("47: undone then, bill", x.bill(), 100);
        Check.due("47: undone then, spoke", x.spoke(), -1);
        x.undo(1);
        Check.due("47: undone then, bill", x.bill(), 700);
        PinchedBill y = new PinchedBill();
        y.image(0);
        Check.tell(y, THREE);
        y.restore(0);
        Check.due("47: no house", y.count(2), 0);
        Check.due("47: no house, laws", y.laws(), 10);
        Check.due("47: no house, lines of text", y.count(0), 0);
    }

    private static void counts() {
        PinchedBill x = Check.housed("house lines 2;person 3 3;person 5 5;person 2 2 out;");
        Check.due("48: lines of text", x.count(0), 4);
        Check.due("48: lines of a bill", x.count(1), 2);
        Check.due("48: people", x.count(2), 3);
        Check.due("48: who sits", x.count(3), 3);
        Check.due("48: how many sit", x.count(4), 2);
        Check.due("48: bills in all", x.count(5), 100);
        Check.due("48: deeds", x.count(6), 0);
        Check.due("48: tape", x.count(7), 0);
        Check.due("48: 8", x.count(8), -1);
        Check.due("48: -1", x.count(-1), -1);
        Check.due("48: 10 bills", new PinchedBill().count(5), 10);
        Check.due("48: 1000 bills", Check.housed("house lines 3;").count(5), 1000);
        Check.due("48: NONE", PinchedBill.NONE, -1);
    }
}
