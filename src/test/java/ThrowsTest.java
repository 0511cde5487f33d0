import java.util.ArrayList;
import java.util.List;
import java.util.NoSuchElementException;

/** Which throw comes first, and that a call which throws changes nothing. */
public final class ThrowsTest {
    private static final String THREE = "house lines 2;person 3 1;person 5 6 temper 5;person 2 8 out;bill 0 4;";
    private static final Class<NoSuchElementException> NO_SUCH = NoSuchElementException.class;
    private static final Class<IllegalStateException> STATE = IllegalStateException.class;
    private static final Class<IllegalArgumentException> ARGUMENT = IllegalArgumentException.class;
    private static final Class<IndexOutOfBoundsException> PLACE = IndexOutOfBoundsException.class;
    private static final int LOW = Integer.MIN_VALUE;
    private static final int HIGH = Integer.MAX_VALUE;

    private ThrowsTest() {
    }

    private interface Made {
        void on(PinchedBill x);
    }

    public static void main(String[] args) {
        Edge.of(Edge.TERMS, "Of several throws of a call that one comes that is told first. A call that throws changes nothing.");
        ofTheHouse();
        ofDeeds();
        ofEnds();
        ofSeats();
        ofThePast();
        ofTwo();
        ofTrays();
        Edge.end(Edge.TERMS, Edge.TERMS);
    }

    /** Tray 0 has deeds, 1 what was seen, 2 is empty, 3 is missing; image 1 was made; a text waits on the tape. */
    private static PinchedBill used() {
        PinchedBill x = Check.housed(THREE);
        x.image(1);
        x.steps(2);
        x.call(2);
        x.draft(150);
        x.steps(1);
        Check.fillTray(x, 0, 2, 1000, -1, 55, -1);
        Check.fillTray(x, 1, 1, -1, 260);
        x.tray(2, 0, 0);
        Check.tell(x, "house lines 2;bill 1 99;");
        Check.feed(x, Check.bytes("house lines 3;person 1 2 3;bill 4 5 6;  "));
        return x;
    }

    private static long answered(Check.Call c) {
        try {
            return c.answer();
        } catch (RuntimeException e) {
            return -1000 - e.getClass().getSimpleName().length();
        }
    }

    /** All that can be asked, at last by undoing all, by reading the tape and by going back to an image. */
    private static List<Long> all(PinchedBill x) {
        List<Long> a = new ArrayList<>();
        asked(x, a);
        for (int t = 0; t < 4; t++) {
            int tray = t;
            for (int w = 0; w < 4; w++) {
                int what = w;
                a.add(answered(() -> x.judge(tray, what)));
            }
            a.add(answered(() -> x.seen(tray)));
            a.add(answered(() -> x.perform(tray)));
            a.add(answered(() -> x.write(tray, 1, 1L << 40)));
        }
        for (int n = x.count(6); n > 0; n--) {
            a.add((long) x.undo(1));
            asked(x, a);
        }
        a.add((long) x.house(x.count(7)));
        asked(x, a);
        for (int i = 0; i < 3; i++) {
            int image = i;
            a.add(answered(() -> {
                x.restore(image);
                return 0;
            }));
            asked(x, a);
        }
        return a;
    }

    private static void asked(PinchedBill x, List<Long> a) {
        for (int what = 0; what < 8; what++) {
            a.add((long) x.count(what));
        }
        a.add((long) x.bill());
        a.add((long) x.spoke());
        a.add((long) x.next());
        a.add((long) x.fault(0));
        a.add((long) x.fault(1));
        a.add((long) x.pinched(0));
        a.add((long) x.takes(0));
        a.add((long) x.laws());
        a.add(x.chance(0, 1));
    }

    private static void due(String call, Class<? extends RuntimeException> want, Made made) {
        PinchedBill x = used();
        Edge.dueThrow(call, want, () -> {
            made.on(x);
            return 0;
        });
        Edge.due(call + " changes nothing", all(x).equals(all(used())) ? 1 : 0, 1);
    }

    private static void ofTheHouse() {
        due("house(-1)", ARGUMENT, x -> x.house(-1));
        due("house(41)", ARGUMENT, x -> x.house(41));
        due("house(LOW)", ARGUMENT, x -> x.house(LOW));
        due("house(HIGH)", ARGUMENT, x -> x.house(HIGH));
        due("person(-1, 0)", NO_SUCH, x -> x.person(-1, 0));
        due("person(3, 0)", NO_SUCH, x -> x.person(3, 0));
        due("person(3, 6): the person first", NO_SUCH, x -> x.person(3, 6));
        due("person(HIGH, LOW): the person first", NO_SUCH, x -> x.person(HIGH, LOW));
        due("person(2, 6)", ARGUMENT, x -> x.person(2, 6));
        due("person(2, -1)", ARGUMENT, x -> x.person(2, -1));
        due("pinched(1)", ARGUMENT, x -> x.pinched(1));
        due("spoken(1, 3): the person first", NO_SUCH, x -> x.spoken(1, 3));
        due("spoken(LOW, LOW): the person first", NO_SUCH, x -> x.spoken(LOW, LOW));
        due("spoken(0, 3)", NO_SUCH, x -> x.spoken(0, 3));
        due("spoken(1, 0)", ARGUMENT, x -> x.spoken(1, 0));
    }

    private static void ofDeeds() {
        due("steps(0)", ARGUMENT, x -> x.steps(0));
        due("steps(1000)", ARGUMENT, x -> x.steps(1000));
        due("undo(0)", ARGUMENT, x -> x.undo(0));
        due("undo(5) of four", ARGUMENT, x -> x.undo(5));
        due("undo(11)", ARGUMENT, x -> x.undo(11));
        due("judge(4, 4): the tray first", NO_SUCH, x -> x.judge(4, 4));
        due("judge(-1, 0)", NO_SUCH, x -> x.judge(-1, 0));
        due("judge(3, 4): missing first", STATE, x -> x.judge(3, 4));
        due("judge(3, 0)", STATE, x -> x.judge(3, 0));
        due("judge(0, 4)", ARGUMENT, x -> x.judge(0, 4));
        due("judge(2, -1)", ARGUMENT, x -> x.judge(2, -1));
        due("perform(4)", NO_SUCH, x -> x.perform(4));
        due("perform(3)", STATE, x -> x.perform(3));
        due("winter(1, 0)", ARGUMENT, x -> x.winter(1, 0));
        due("winter(1, 31)", ARGUMENT, x -> x.winter(1, 31));
    }

    private static void ofEnds() {
        due("ends(1)", ARGUMENT, x -> x.ends(1));
        due("ends(-10)", ARGUMENT, x -> x.ends(-10));
        due("takes(1000)", ARGUMENT, x -> x.takes(1000));
        due("goes(1, 1)", ARGUMENT, x -> x.goes(1, 1));
        due("goes(0, -1)", ARGUMENT, x -> x.goes(0, -1));
        due("goes(0, 10000)", ARGUMENT, x -> x.goes(0, 10_000));
        due("ring(1, 0)", ARGUMENT, x -> x.ring(1, 0));
        due("ring(0, 2)", ARGUMENT, x -> x.ring(0, 2));
        due("ring(0, 20)", ARGUMENT, x -> x.ring(0, 20));
        due("law(-1)", ARGUMENT, x -> x.law(-1));
        due("into(1)", ARGUMENT, x -> x.into(1));
        due("nearest(1)", ARGUMENT, x -> x.nearest(1));
    }

    private static void ofSeats() {
        due("seats(1, -1, 0)", ARGUMENT, x -> x.seats(1, -1, 0));
        due("seats(0, -2, 0)", ARGUMENT, x -> x.seats(0, -2, 0));
        due("seats(0, 1, 0)", ARGUMENT, x -> x.seats(0, 1, 0));
        due("seats(0, -1, 2)", ARGUMENT, x -> x.seats(0, -1, 2));
        due("hire(1)", ARGUMENT, x -> x.hire(1));
        due("weighty(1)", ARGUMENT, x -> x.weighty(1));
        due("share(1, 3, -1): the person first", NO_SUCH, x -> x.share(1, 3, -1));
        due("share(0, -1, 0)", NO_SUCH, x -> x.share(0, -1, 0));
        due("share(1, 0, 0)", ARGUMENT, x -> x.share(1, 0, 0));
        due("share(0, 0, 10000)", ARGUMENT, x -> x.share(0, 0, 10_000));
        due("sorest(1)", ARGUMENT, x -> x.sorest(1));
    }

    private static void ofThePast() {
        due("before(1, 0)", ARGUMENT, x -> x.before(1, 0));
        due("before(0, 100)", ARGUMENT, x -> x.before(0, 100));
        due("beforeAt(1, 0, 0)", ARGUMENT, x -> x.beforeAt(1, 0, 0));
        due("beforeAt(0, -1, 0)", ARGUMENT, x -> x.beforeAt(0, -1, 0));
        due("beforeAt(0, 0, -1)", ARGUMENT, x -> x.beforeAt(0, 0, -1));
        due("seen(4)", NO_SUCH, x -> x.seen(4));
        due("seen(3)", STATE, x -> x.seen(3));
        due("seen(2), no numbers", ARGUMENT, x -> x.seen(2));
        due("seen(0), no bills", ARGUMENT, x -> x.seen(0));
        due("seenAt(4, -1): the tray first", NO_SUCH, x -> x.seenAt(4, -1));
        due("seenAt(3, -1): missing first", STATE, x -> x.seenAt(3, -1));
        due("seenAt(2, 0)", ARGUMENT, x -> x.seenAt(2, 0));
        due("seenAt(1, -1)", ARGUMENT, x -> x.seenAt(1, -1));
        due("ask(-1)", NO_SUCH, x -> x.ask(-1));
        due("ask(3)", STATE, x -> x.ask(3));
        due("ask(2)", ARGUMENT, x -> x.ask(2));
        due("ask(0)", ARGUMENT, x -> x.ask(0));
    }

    private static void ofTwo() {
        due("both(1, 0)", ARGUMENT, x -> x.both(1, 0));
        due("both(0, 1)", ARGUMENT, x -> x.both(0, 1));
        due("bothIn(1, 0, 0, 0)", ARGUMENT, x -> x.bothIn(1, 0, 0, 0));
        due("bothIn(0, 1, 0, 0)", ARGUMENT, x -> x.bothIn(0, 1, 0, 0));
        due("bothIn(0, 0, 10000, 0)", ARGUMENT, x -> x.bothIn(0, 0, 10_000, 0));
        due("bothIn(0, 0, 0, 2)", ARGUMENT, x -> x.bothIn(0, 0, 0, 2));
        due("chance(1, 0)", ARGUMENT, x -> x.chance(1, 0));
        due("chance(0, 2)", ARGUMENT, x -> x.chance(0, 2));
        due("away(1)", ARGUMENT, x -> x.away(1));
    }

    private static void ofTrays() {
        due("tray(4, 4, 31): the tray first", NO_SUCH, x -> x.tray(4, 4, 31));
        due("tray(-1, 0, 0)", NO_SUCH, x -> x.tray(-1, 0, 0));
        due("tray(0, 4, 0)", ARGUMENT, x -> x.tray(0, 4, 0));
        due("tray(0, 0, 31)", ARGUMENT, x -> x.tray(0, 0, 31));
        due("tray(3, 0, -1)", ARGUMENT, x -> x.tray(3, 0, -1));
        due("write(4, -1, 5): the tray first", NO_SUCH, x -> x.write(4, -1, 5));
        due("write(3, -1, 5): missing first", STATE, x -> x.write(3, -1, 5));
        due("write(0, 4, 5)", PLACE, x -> x.write(0, 4, 5));
        due("write(0, -1, 5)", PLACE, x -> x.write(0, -1, 5));
        due("write(2, 0, 5)", PLACE, x -> x.write(2, 0, 5));
        due("copy(4, 1): the tray first", NO_SUCH, x -> x.copy(4, 1));
        due("copy(3, 1): missing first", STATE, x -> x.copy(3, 1));
        due("copy(0, 1)", ARGUMENT, x -> x.copy(0, 1));
        due("copy(2, 1), no places", ARGUMENT, x -> x.copy(2, 1));
        due("image(3)", NO_SUCH, x -> x.image(3));
        due("restore(3): no such one first", NO_SUCH, x -> x.restore(3));
        due("restore(-1)", NO_SUCH, x -> x.restore(-1));
        due("restore(2)", STATE, x -> x.restore(2));
    }
}
