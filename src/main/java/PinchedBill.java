import java.util.Arrays;
import java.util.NoSuchElementException;

/** A house told as a text, whose bills are amended by whoever they pinch. */
public final class PinchedBill {
    public static final int NONE = -1;

    private static final int TAPE_LENGTH = 900;
    private static final int FEED_LENGTH = 20;
    private static final int BILLS = 1000;
    private static final int MOST_LINES = 3;
    private static final int MOST_PEOPLE = 8;
    private static final int SETS = 256;
    private static final int SURE = 10;
    private static final int MOST_DEEDS = 10;
    private static final int MOST_STEPS_DONE = 999;
    private static final int MOST_STEPS = 9999;
    private static final int MOST_BEFORE = 99;
    private static final int MOST_TIMES = 30;
    private static final int TRAYS = 4;
    private static final int SORTS = 4;
    private static final int TRAY_LENGTH = 30;
    private static final int MOST_SEEN = 8;
    private static final int IMAGES = 3;

    private static final int TOLD_SENT = 1000;
    private static final int TOLD_CALLED = 2000;
    private static final int TOLD_ABOVE = 3000;
    private static final int WHY_NO_SUCH = 1;
    private static final int WHY_SITS_SO = 2;

    private static final int RING_LENGTH = 0;
    private static final int RING_START = 1;
    private static final int RING_BILL = 10;
    private static final int RING_LAST_BILL = 19;

    /** A law is kept as a row of codes, operands ahead of their operator: 0 to 999 are numbers. */
    private static final int WORD_ONE = 1000;
    private static final int WORD_TWO = 1001;
    private static final int WORD_THREE = 1002;
    private static final int WORD_HAT = 1003;
    private static final int WORD_HEAD = 1004;
    private static final int WORD_HEIGHT = 1005;
    private static final int WORD_WHO = 1006;
    private static final int WORD_LINE = 1007;
    private static final int NOT = 1008;
    private static final int AND = 1009;
    private static final int OR = 1010;
    private static final int EQUAL = 1011;
    private static final int BELOW = 1012;
    private static final int ABOVE = 1013;
    private static final int PLUS = 1014;
    private static final int MINUS = 1015;
    private static final int TIMES = 1016;

    private final Reader reader = new Reader();
    private final House house = new House();
    private final Standing now = new Standing();
    private final Standing trial = new Standing();
    /** What is null is missing: a tray not laid out, an image not made. */
    private final Tray[] trays = new Tray[TRAYS];
    private final Image[] images = new Image[IMAGES];
    private Reckoner reckoner;

    public PinchedBill() {
    }

    // ---- the house

    public int feed(int a, int b, int c, int d, int e) {
        if (reader.fed + FEED_LENGTH > TAPE_LENGTH) {
            return NONE;
        }
        reader.putOnTape(a);
        reader.putOnTape(b);
        reader.putOnTape(c);
        reader.putOnTape(d);
        reader.putOnTape(e);
        return reader.fed;
    }

    public int house(int n) throws IllegalArgumentException {
        mustBeWithin(n, 0, reader.fed);
        if (!reader.readsHouse(n)) {
            return -10 - reader.fault;
        }
        house.copyFrom(reader.house);
        now.open(house);
        forgetReckoned();
        return house.textLines;
    }

    public int fault(int what) {
        if (what == 0) {
            return reader.fault;
        }
        return what == 1 ? reader.place : NONE;
    }

    public int person(int p, int what) throws NoSuchElementException, IllegalArgumentException {
        mustBePerson(p);
        mustBeWithin(what, 0, 5);
        if (what < MOST_LINES) {
            return house.markOf(p, what);
        }
        if (what == 3) {
            return house.temperOf(p);
        }
        int people = what == 4 ? now.sitting : lawBook().pinchedBy(now.at.bill);
        return people >> p & 1;
    }

    public int bill() {
        return now.at.bill;
    }

    public int spoke() {
        return now.at.spoke;
    }

    public int next() {
        return Laws.speaker(lawBook().pinchedBy(now.at.bill) & now.sitting, now.at.spoke);
    }

    public int pinched(int bill) throws IllegalArgumentException {
        mustBeBill(bill);
        return lawBook().pinchedBy(bill) & now.sitting;
    }

    public int spoken(int bill, int p) throws NoSuchElementException, IllegalArgumentException {
        mustBePerson(p);
        mustBeBill(bill);
        return lawBook().changedBy(bill, p);
    }

    // ---- deeds

    public int steps(int n) throws IllegalArgumentException {
        mustBeWithin(n, 1, MOST_STEPS_DONE);
        now.record();
        return lawBook().stepOften(now.at, n, now.sitting);
    }

    public int draft(int bill) {
        if (bill < 0 || bill >= BILLS) {
            return -WHY_NO_SUCH;
        }
        int was = now.at.bill;
        int why = whyNotDone(now, bill);
        return why == 0 ? was : -why;
    }

    public int send(int p) {
        return seatMoved(TOLD_SENT, p);
    }

    public int call(int p) {
        return seatMoved(TOLD_CALLED, p);
    }

    public int undo(int n) throws IllegalArgumentException {
        mustBeWithin(n, 1, now.deeds);
        for (int i = 0; i < n; i++) {
            now.takeBack();
        }
        return now.deeds;
    }

    public int judge(int tray, int what) throws NoSuchElementException, IllegalStateException, IllegalArgumentException {
        Tray told = trayThere(tray);
        mustBeWithin(what, 0, 3);
        trial.copyFrom(now);
        int done = doneOf(told, trial);
        switch (what) {
            case 0:
                return done < told.many ? done : NONE;
            case 1:
                return done < told.many ? whyNot(trial, told.numberAt(done)) : 0;
            case 2:
                return trial.at.bill;
            default:
                return trial.sitting;
        }
    }

    public int perform(int tray) throws NoSuchElementException, IllegalStateException {
        return doneOf(trayThere(tray), now);
    }

    public int winter(int seed, int times) throws IllegalArgumentException {
        mustBeWithin(times, 1, MOST_TIMES);
        int x = seed;
        int could = 0;
        for (int i = 0; i < times; i++) {
            x = drawnFrom(x);
            int sort = (x >>> 16) % 5;
            int told = NONE;
            if (sort > 1) {
                x = drawnFrom(x);
                told = toldInWinter(sort, x >>> 16);
            }
            if (whyNotDone(now, told) == 0) {
                could++;
            }
        }
        return could;
    }

    // ---- where it ends

    public int ends(int bill) throws IllegalArgumentException {
        mustBeBill(bill);
        return traced(bill).end;
    }

    public int takes(int bill) throws IllegalArgumentException {
        mustBeBill(bill);
        Reckoner r = traced(bill);
        return r.end == NONE ? NONE : r.length;
    }

    public int goes(int bill, int n) throws IllegalArgumentException {
        mustBeBill(bill);
        mustBeWithin(n, 0, MOST_STEPS);
        return reckoned().billIn(bill, n, now.sitting);
    }

    public int ring(int bill, int what) throws IllegalArgumentException {
        mustBeBill(bill);
        if (what != RING_LENGTH && what != RING_START) {
            mustBeWithin(what, RING_BILL, RING_LAST_BILL);
        }
        Reckoner r = traced(bill);
        if (r.end != NONE) {
            return NONE;
        }
        int ringLength = r.length - r.ringStart;
        if (what == RING_LENGTH) {
            return ringLength;
        }
        if (what == RING_START) {
            return r.ringStart;
        }
        int k = what - RING_BILL;
        return k < ringLength ? r.billIn(bill, r.ringStart + k, now.sitting) : NONE;
    }

    public int laws() {
        return reckoned().findLaws(now.sitting);
    }

    public int law(int k) throws IllegalArgumentException {
        mustNotBeBelow0(k);
        Reckoner r = reckoned();
        r.findLaws(now.sitting);
        return r.foundAt(k);
    }

    public int into(int bill) throws IllegalArgumentException {
        mustBeBill(bill);
        return reckoned().howManyEndIn(bill, now.sitting);
    }

    public int endless() {
        return reckoned().howManyEndIn(NONE, now.sitting);
    }

    public int longest() {
        return reckoned().longestWay(now.sitting);
    }

    public int nearest(int bill) throws IllegalArgumentException {
        mustBeBill(bill);
        Reckoner r = reckoned();
        int many = r.findLaws(now.sitting);
        int best = NONE;
        int least = BILLS;
        for (int k = 0; k < many; k++) {
            int far = farApart(r.foundAt(k), bill);
            if (far < least) {
                best = r.foundAt(k);
                least = far;
            }
        }
        return best;
    }

    // ---- who sits

    public int seats(int bill, int goal, int what) throws IllegalArgumentException {
        mustBeBill(bill);
        if (goal != NONE) {
            mustBeBill(goal);
        }
        mustBeWithin(what, 0, 1);
        int set = reckoned().fewestSeats(bill, goal);
        return set == NONE || what == 1 ? set : Integer.bitCount(set);
    }

    public int hire(int bill) throws IllegalArgumentException {
        mustBeBill(bill);
        Reckoner r = reckoned();
        if (r.endWith(bill, now.sitting) != NONE) {
            return NONE;
        }
        for (int p = 0; p < house.people; p++) {
            int called = now.sitting | 1 << p;
            if (called != now.sitting && r.endWith(bill, called) != NONE) {
                return p;
            }
        }
        return NONE;
    }

    public int weighty(int bill) throws IllegalArgumentException {
        mustBeBill(bill);
        Reckoner r = reckoned();
        int end = r.endWith(bill, now.sitting);
        int people = 0;
        for (int p = 0; p < house.people; p++) {
            int sent = now.sitting & ~(1 << p);
            if (sent != now.sitting && r.endWith(bill, sent) != end) {
                people |= 1 << p;
            }
        }
        return people;
    }

    public int share(int bill, int p, int n) throws NoSuchElementException, IllegalArgumentException {
        mustBePerson(p);
        mustBeBill(bill);
        mustBeWithin(n, 0, MOST_STEPS);
        Reckoner r = reckoned();
        r.countSpeeches(bill, n, now.sitting);
        return r.speechesOf(p);
    }

    public int sorest(int bill) throws IllegalArgumentException {
        mustBeBill(bill);
        Reckoner r = traced(bill);
        r.countSpeeches(bill, r.length, now.sitting);
        int best = NONE;
        int most = 0;
        for (int p = 0; p < house.people; p++) {
            if (r.speechesOf(p) > most) {
                best = p;
                most = r.speechesOf(p);
            }
        }
        return best;
    }

    // ---- what it was

    public int before(int bill, int n) throws IllegalArgumentException {
        mustBeBill(bill);
        mustBeWithin(n, 0, MOST_BEFORE);
        return reckoned().findBefore(bill, n, now.sitting);
    }

    public int beforeAt(int bill, int n, int k) throws IllegalArgumentException {
        mustBeBill(bill);
        mustBeWithin(n, 0, MOST_BEFORE);
        mustNotBeBelow0(k);
        Reckoner r = reckoned();
        r.findBefore(bill, n, now.sitting);
        return r.foundAt(k);
    }

    public int seen(int tray) throws NoSuchElementException, IllegalStateException, IllegalArgumentException {
        return reckoned().findSeen(traySeen(tray), now.sitting);
    }

    public int seenAt(int tray, int k) throws NoSuchElementException, IllegalStateException, IllegalArgumentException {
        Tray told = traySeen(tray);
        mustNotBeBelow0(k);
        Reckoner r = reckoned();
        r.findSeen(told, now.sitting);
        return r.foundAt(k);
    }

    public int ask(int tray) throws NoSuchElementException, IllegalStateException, IllegalArgumentException {
        Tray told = traySeen(tray);
        Reckoner r = reckoned();
        if (r.findSeen(told, now.sitting) == 0) {
            return NONE;
        }
        int best = NONE;
        int least = BILLS + 1;
        for (int place = 0; place < told.many; place++) {
            if (told.numberAt(place) == NONE) {
                int alike = r.mostAlikeIn(place, now.sitting);
                if (alike < least) {
                    best = place;
                    least = alike;
                }
            }
        }
        return best;
    }

    // ---- two, chances

    public int both(int bill, int other) throws IllegalArgumentException {
        mustBeBill(bill);
        mustBeBill(other);
        Reckoner r = reckoned();
        r.startBoth(bill, other);
        for (int rounds = 0; rounds <= MOST_STEPS; rounds++) {
            if (r.areBothLaws(now.sitting)) {
                return rounds;
            }
            r.round(now.sitting);
        }
        return NONE;
    }

    public int bothIn(int bill, int other, int n, int which) throws IllegalArgumentException {
        mustBeBill(bill);
        mustBeBill(other);
        mustBeWithin(n, 0, MOST_STEPS);
        mustBeWithin(which, 0, 1);
        Reckoner r = reckoned();
        r.startBoth(bill, other);
        for (int i = 0; i < n && !r.areBothLaws(now.sitting); i++) {
            r.round(now.sitting);
        }
        return which == 0 ? r.first.bill : r.second.bill;
    }

    public long chance(int bill, int what) throws IllegalArgumentException {
        mustBeBill(bill);
        mustBeWithin(what, 0, 1);
        long above = reckoned().chanceWithout(bill, NONE);
        long below = house.wholeChance();
        long common = commonDivisor(above, below);
        if (common == 0) {
            return 0;
        }
        return what == 0 ? above / common : below / common;
    }

    public int away(int bill) throws IllegalArgumentException {
        mustBeBill(bill);
        Reckoner r = reckoned();
        int best = NONE;
        long most = r.chanceWithout(bill, NONE);
        for (int p = 0; p < house.people; p++) {
            long without = r.chanceWithout(bill, p);
            if (without > most) {
                best = p;
                most = without;
            }
        }
        return best;
    }

    // ---- trays, images

    public void tray(int tray, int sort, int many) throws NoSuchElementException, IllegalArgumentException {
        mustBeTray(tray);
        mustBeWithin(sort, 0, SORTS - 1);
        mustBeWithin(many, 0, TRAY_LENGTH);
        Tray t = trays[tray];
        if (t == null) {
            t = new Tray();
            trays[tray] = t;
        }
        t.layOut(sort, many);
    }

    public long write(int tray, int place, long v)
            throws NoSuchElementException, IllegalStateException, IndexOutOfBoundsException {
        Tray t = trayThere(tray);
        if (place < 0 || place >= t.many) {
            throw new IndexOutOfBoundsException("no such place");
        }
        t.put(place, v);
        return t.numberAt(place);
    }

    public int copy(int tray, int bill)
            throws NoSuchElementException, IllegalStateException, IllegalArgumentException {
        Tray t = trayThere(tray);
        mustBeBill(bill);
        reckoned().copyWay(bill, t, now.sitting);
        return t.many;
    }

    public void image(int i) throws NoSuchElementException {
        mustBeImage(i);
        Image kept = images[i];
        if (kept == null) {
            kept = new Image();
            images[i] = kept;
        }
        kept.house.copyFrom(house);
        kept.standing.copyFrom(now);
    }

    public void restore(int i) throws NoSuchElementException, IllegalStateException {
        mustBeImage(i);
        Image kept = images[i];
        if (kept == null) {
            throw new IllegalStateException("no image was made");
        }
        house.copyFrom(kept.house);
        now.copyFrom(kept.standing);
        forgetReckoned();
    }

    public int count(int what) {
        switch (what) {
            case 0:
                return house.textLines;
            case 1:
                return house.lines;
            case 2:
                return house.people;
            case 3:
                return now.sitting;
            case 4:
                return Integer.bitCount(now.sitting);
            case 5:
                return house.bills();
            case 6:
                return now.deeds;
            case 7:
                return reader.fed;
            default:
                return NONE;
        }
    }

    // ---- what has to be so, or is thrown

    private static void mustBeWithin(int n, int least, int most) {
        if (n < least || n > most) {
            throw new IllegalArgumentException("a number is out of its bounds");
        }
    }

    private static void mustNotBeBelow0(int k) {
        if (k < 0) {
            throw new IllegalArgumentException("below 0");
        }
    }

    private void mustBeBill(int bill) {
        if (!house.isBill(bill)) {
            throw new IllegalArgumentException("no such bill");
        }
    }

    private void mustBePerson(int p) {
        if (p < 0 || p >= house.people) {
            throw new NoSuchElementException("no such person");
        }
    }

    private static void mustBeImage(int i) {
        if (i < 0 || i >= IMAGES) {
            throw new NoSuchElementException("no such image");
        }
    }

    private static void mustBeTray(int tray) {
        if (tray < 0 || tray >= TRAYS) {
            throw new NoSuchElementException("no such tray");
        }
    }

    private Tray trayThere(int tray) {
        mustBeTray(tray);
        Tray t = trays[tray];
        if (t == null) {
            throw new IllegalStateException("the tray is missing");
        }
        return t;
    }

    private Tray traySeen(int tray) {
        Tray t = trayThere(tray);
        mustBeWithin(t.many, 1, MOST_SEEN);
        for (int i = 0; i < t.many; i++) {
            long v = t.numberAt(i);
            if (v != NONE && (v < 0 || v >= BILLS || !house.isBill((int) v))) {
                throw new IllegalArgumentException("a number seen is no such bill");
            }
        }
        return t;
    }

    // ---- helpers of the calls

    /** The reckoner's rows are large: an object that is never asked makes none. */
    private Reckoner reckoned() {
        if (reckoner == null) {
            reckoner = new Reckoner(house);
        }
        return reckoner;
    }

    private Laws lawBook() {
        return reckoned().laws;
    }

    private void forgetReckoned() {
        if (reckoner != null) {
            reckoner.forgetAll();
        }
    }

    private Reckoner traced(int bill) {
        Reckoner r = reckoned();
        r.trace(bill, now.sitting);
        return r;
    }

    private int seatMoved(int sort, int p) {
        if (p < 0 || p >= MOST_PEOPLE) {
            return -WHY_NO_SUCH;
        }
        int why = whyNotDone(now, sort + p);
        return why == 0 ? Integer.bitCount(now.sitting) : -why;
    }

    private int whyNot(Standing s, long told) {
        if (told == NONE) {
            return 0;
        }
        if (told < 0 || told >= TOLD_ABOVE) {
            return WHY_NO_SUCH;
        }
        int v = (int) told;
        if (v < TOLD_SENT) {
            return house.isBill(v) ? 0 : WHY_NO_SUCH;
        }
        boolean sent = v < TOLD_CALLED;
        int p = sent ? v - TOLD_SENT : v - TOLD_CALLED;
        if (p >= house.people) {
            return WHY_NO_SUCH;
        }
        boolean sits = (s.sitting >> p & 1) == 1;
        return sits == sent ? 0 : WHY_SITS_SO;
    }

    /** Does a told deed, if it can be; else nothing happens and it answers why. */
    private int whyNotDone(Standing s, long told) {
        int why = whyNot(s, told);
        if (why != 0) {
            return why;
        }
        int v = (int) told;
        s.record();
        if (v == NONE) {
            lawBook().step(s.at, s.sitting);
        } else if (v < TOLD_SENT) {
            s.at.start(v);
        } else if (v < TOLD_CALLED) {
            s.sitting &= ~(1 << (v - TOLD_SENT));
        } else {
            s.sitting |= 1 << (v - TOLD_CALLED);
        }
        return 0;
    }

    private int doneOf(Tray told, Standing s) {
        for (int i = 0; i < told.many; i++) {
            if (whyNotDone(s, told.numberAt(i)) != 0) {
                return i;
            }
        }
        return told.many;
    }

    private static int drawnFrom(int x) {
        return 1103515245 * x + 12345;
    }

    private static int toldInWinter(int sort, int draw) {
        if (sort == 2) {
            return draw % BILLS;
        }
        return (sort == 3 ? TOLD_SENT : TOLD_CALLED) + draw % MOST_PEOPLE;
    }

    private static int figureOf(int bill, int line) {
        if (line == 0) {
            return bill / 100;
        }
        return line == 1 ? bill / 10 % 10 : bill % 10;
    }

    private static int farApart(int bill, int other) {
        int far = 0;
        for (int line = 0; line < MOST_LINES; line++) {
            far += Math.abs(figureOf(bill, line) - figureOf(other, line));
        }
        return far;
    }

    private static long commonDivisor(long a, long b) {
        long large = a;
        long small = b;
        for (int i = 0; i < 200 && small != 0; i++) {
            long rest = large % small;
            large = small;
            small = rest;
        }
        return large;
    }

    /** What the text of a house tells. */
    private static final class House {
        int textLines;
        int lines;
        int people;
        int sitting;
        int firstBill;
        int codes;
        int pinchesFrom;
        int pinchesTo;
        int changesFrom;
        int changesTo;
        private final int[] marks = new int[MOST_PEOPLE * MOST_LINES];
        private final int[] tempers = new int[MOST_PEOPLE];
        /** Each code comes from a token of its own, so the text's length is room enough. */
        private final int[] code = new int[TAPE_LENGTH];

        House() {
            lines = 1;
        }

        void clear() {
            textLines = 0;
            lines = 1;
            people = 0;
            sitting = 0;
            firstBill = 0;
            codes = 0;
            pinchesFrom = 0;
            pinchesTo = 0;
            changesFrom = 0;
            changesTo = 0;
            Arrays.fill(marks, 0);
            Arrays.fill(tempers, 0);
        }

        void copyFrom(House other) {
            textLines = other.textLines;
            lines = other.lines;
            people = other.people;
            sitting = other.sitting;
            firstBill = other.firstBill;
            codes = other.codes;
            pinchesFrom = other.pinchesFrom;
            pinchesTo = other.pinchesTo;
            changesFrom = other.changesFrom;
            changesTo = other.changesTo;
            System.arraycopy(other.marks, 0, marks, 0, marks.length);
            System.arraycopy(other.tempers, 0, tempers, 0, tempers.length);
            System.arraycopy(other.code, 0, code, 0, code.length);
        }

        /** How far a bill's number is from the next bill's: figures that it hasn't are 0. */
        int unit() {
            if (lines == 1) {
                return 100;
            }
            return lines == 2 ? 10 : 1;
        }

        int bills() {
            if (lines == 1) {
                return 10;
            }
            return lines == 2 ? 100 : BILLS;
        }

        int billAt(int i) {
            return i * unit();
        }

        boolean isBill(int bill) {
            if (bill < 0 || bill >= BILLS) {
                return false;
            }
            if (lines == 1) {
                return bill % 100 == 0;
            }
            return lines != 2 || bill % 10 == 0;
        }

        int markOf(int p, int line) {
            int i = p * MOST_LINES + line;
            return i >= 0 && i < marks.length ? marks[i] : 0;
        }

        void setMark(int p, int line, int mark) {
            int i = p * MOST_LINES + line;
            if (i >= 0 && i < marks.length) {
                marks[i] = mark;
            }
        }

        int temperOf(int p) {
            return p >= 0 && p < MOST_PEOPLE ? tempers[p] : 0;
        }

        void setTemper(int p, int temper) {
            if (p >= 0 && p < MOST_PEOPLE) {
                tempers[p] = temper;
            }
        }

        void addCode(int c) {
            if (codes < code.length) {
                code[codes] = c;
                codes++;
            }
        }

        int codeAt(int i) {
            return i >= 0 && i < code.length ? code[i] : 0;
        }

        boolean hasPinches() {
            return pinchesTo > pinchesFrom;
        }

        boolean hasChanges() {
            return changesTo > changesFrom;
        }

        /** Ten for each of the people: what the chances of all sets sum up to. */
        long wholeChance() {
            long whole = 1;
            for (int p = 0; p < people; p++) {
                whole *= SURE;
            }
            return whole;
        }
    }

    /** Has the tape, and reads a house from it, token by token; it stops at the first fault. */
    private static final class Reader {
        private static final int END = 0;
        private static final int WORD = 1;
        private static final int NUMBER = 2;
        private static final int SIGN = 3;
        private static final int NO_TOKEN = 4;

        private static final int FAULT_NO_TOKEN = 1;
        private static final int FAULT_PLACE = 2;
        private static final int FAULT_BOUNDS = 3;
        private static final int FAULT_TOO_MANY = 4;

        private static final String SIGNS = ";:+-*()[]=<>";
        private static final int MOST_WITHIN = 6;
        private static final int MOST_DIGITS = 3;

        /** How many bytes the tape has. */
        int fed;
        int fault;
        int place = NONE;
        /** What the latest text tells; it counts only if that has no fault. */
        final House house = new House();
        private final byte[] tape = new byte[TAPE_LENGTH];
        private int length;
        private int kind;
        private int start;
        private int end;
        private int number;
        private boolean inChanges;

        /** The highest byte comes first. */
        void putOnTape(int four) {
            for (int shift = 24; shift >= 0; shift -= 8) {
                if (fed < TAPE_LENGTH) {
                    tape[fed] = (byte) (four >> shift);
                    fed++;
                }
            }
        }

        /** Takes the first n bytes as a house; behind it the tape is empty, whether it could be read or not. */
        boolean readsHouse(int n) {
            fed = 0;
            fault = 0;
            place = NONE;
            length = Math.min(n, TAPE_LENGTH);
            end = 0;
            house.clear();
            advance();
            takeWord("house");
            takeWord("lines");
            house.lines = takeNumber(1, MOST_LINES);
            endLine();
            for (int i = 0; i < TAPE_LENGTH && fault == 0 && kind != END; i++) {
                if (isWord("person")) {
                    readPerson();
                } else if (isWord("bill")) {
                    readBill();
                } else {
                    readLaw();
                }
                endLine();
            }
            return fault == 0;
        }

        private void endLine() {
            takeSign(';');
            house.textLines++;
        }

        private void readPerson() {
            int p = house.people;
            if (p >= MOST_PEOPLE) {
                refuse(FAULT_TOO_MANY);
                return;
            }
            advance();
            for (int line = 0; line < house.lines; line++) {
                house.setMark(p, line, takeNumber(0, 9));
            }
            house.setTemper(p, SURE);
            house.sitting |= 1 << p;
            house.people++;
            for (int i = 0; i < TAPE_LENGTH && (isWord("out") || isWord("temper")); i++) {
                readFlag(p);
            }
        }

        private void readFlag(int p) {
            boolean out = isWord("out");
            advance();
            if (out) {
                house.sitting &= ~(1 << p);
            } else {
                house.setTemper(p, takeNumber(0, SURE));
            }
        }

        private void readBill() {
            advance();
            int bill = 0;
            for (int line = 0; line < house.lines; line++) {
                bill = bill * 10 + takeNumber(0, 9);
            }
            house.firstBill = bill * house.unit();
        }

        private void readLaw() {
            inChanges = isWord("changes");
            if (!inChanges && !isWord("pinches")) {
                refuse(FAULT_PLACE);
                return;
            }
            advance();
            takeSign(':');
            int from = house.codes;
            if (inChanges) {
                readSum(0);
                house.changesFrom = from;
                house.changesTo = house.codes;
            } else {
                readTruth(0);
                house.pinchesFrom = from;
                house.pinchesTo = house.codes;
            }
        }

        // Within: how many of not [ ( stand open, which bounds how deep these go.

        private void readTruth(int within) {
            readBoth(within);
            for (int i = 0; i < TAPE_LENGTH && isWord("or"); i++) {
                advance();
                readBoth(within);
                house.addCode(OR);
            }
        }

        private void readBoth(int within) {
            readUnit(within);
            for (int i = 0; i < TAPE_LENGTH && isWord("and"); i++) {
                advance();
                readUnit(within);
                house.addCode(AND);
            }
        }

        private void readUnit(int within) {
            boolean not = isWord("not");
            if (not || isSign('[')) {
                if (within >= MOST_WITHIN) {
                    refuse(FAULT_TOO_MANY);
                    return;
                }
                advance();
                if (not) {
                    readUnit(within + 1);
                    house.addCode(NOT);
                } else {
                    readTruth(within + 1);
                    takeSign(']');
                }
                return;
            }
            readSum(within);
            int c = isSign('=') ? EQUAL : isSign('<') ? BELOW : ABOVE;
            if (c == ABOVE && !isSign('>')) {
                refuse(FAULT_PLACE);
                return;
            }
            advance();
            readSum(within);
            house.addCode(c);
        }

        private void readSum(int within) {
            readTerm(within);
            for (int i = 0; i < TAPE_LENGTH && (isSign('+') || isSign('-')); i++) {
                int c = isSign('+') ? PLUS : MINUS;
                advance();
                readTerm(within);
                house.addCode(c);
            }
        }

        private void readTerm(int within) {
            readAtom(within);
            for (int i = 0; i < TAPE_LENGTH && isSign('*'); i++) {
                advance();
                readAtom(within);
                house.addCode(TIMES);
            }
        }

        private void readAtom(int within) {
            if (isSign('(')) {
                if (within >= MOST_WITHIN) {
                    refuse(FAULT_TOO_MANY);
                    return;
                }
                advance();
                readSum(within + 1);
                takeSign(')');
                return;
            }
            int c = kind == NUMBER ? number : wordCode();
            if (c == NONE) {
                refuse(FAULT_PLACE);
                return;
            }
            house.addCode(c);
            advance();
        }

        private int wordCode() {
            if (isWord("one")) {
                return WORD_ONE;
            }
            if (isWord("two")) {
                return WORD_TWO;
            }
            if (isWord("three")) {
                return WORD_THREE;
            }
            if (isWord("hat")) {
                return WORD_HAT;
            }
            if (isWord("head")) {
                return WORD_HEAD;
            }
            if (isWord("height")) {
                return WORD_HEIGHT;
            }
            if (isWord("who")) {
                return WORD_WHO;
            }
            return inChanges && isWord("line") ? WORD_LINE : NONE;
        }

        private void takeWord(String word) {
            if (isWord(word)) {
                advance();
            } else {
                refuse(FAULT_PLACE);
            }
        }

        private void takeSign(char sign) {
            if (isSign(sign)) {
                advance();
            } else {
                refuse(FAULT_PLACE);
            }
        }

        private int takeNumber(int least, int most) {
            if (fault != 0 || kind != NUMBER) {
                refuse(FAULT_PLACE);
                return least;
            }
            if (number < least || number > most) {
                refuse(FAULT_BOUNDS);
                return least;
            }
            int taken = number;
            advance();
            return taken;
        }

        /** Only the first fault counts: behind it nothing is taken any more. */
        private void refuse(int why) {
            if (fault == 0) {
                fault = kind == NO_TOKEN ? FAULT_NO_TOKEN : why;
                place = start;
            }
        }

        private boolean isWord(String word) {
            if (fault != 0 || kind != WORD || end - start != word.length()) {
                return false;
            }
            for (int i = 0; i < word.length(); i++) {
                if (byteAt(start + i) != word.charAt(i)) {
                    return false;
                }
            }
            return true;
        }

        private boolean isSign(char sign) {
            return fault == 0 && kind == SIGN && byteAt(start) == sign;
        }

        /** 0 behind the text, which is no token's byte. */
        private int byteAt(int i) {
            return i >= 0 && i < length && i < TAPE_LENGTH ? tape[i] & 255 : 0;
        }

        private void advance() {
            if (fault != 0) {
                return;
            }
            start = end;
            while (start < length && (byteAt(start) == 10 || byteAt(start) == 32)) {
                start++;
            }
            end = start;
            int c = byteAt(start);
            if (start >= length) {
                kind = END;
            } else if (isLetter(c)) {
                kind = WORD;
                while (end < length && isLetter(byteAt(end))) {
                    end++;
                }
            } else if (isDigit(c)) {
                number = 0;
                while (end < length && isDigit(byteAt(end))) {
                    number = number * 10 + byteAt(end) - '0';
                    end++;
                }
                kind = end - start > MOST_DIGITS ? NO_TOKEN : NUMBER;
            } else {
                kind = SIGNS.indexOf((char) c) >= 0 ? SIGN : NO_TOKEN;
                end++;
            }
        }

        private static boolean isLetter(int c) {
            return c >= 'a' && c <= 'z';
        }

        private static boolean isDigit(int c) {
            return c >= '0' && c <= '9';
        }
    }

    /** A bill on its way, and who spoke last to it. */
    private static final class Walk {
        int bill;
        int spoke = NONE;

        void start(int from) {
            bill = from;
            spoke = NONE;
        }
    }

    /** Where the house stands now: its bill, who sits, and what can be undone. */
    private static final class Standing {
        final Walk at = new Walk();
        int sitting;
        int deeds;
        private final int[] pastBills = new int[MOST_DEEDS];
        private final int[] pastSpoke = new int[MOST_DEEDS];
        private final int[] pastSitting = new int[MOST_DEEDS];

        void open(House house) {
            at.start(house.firstBill);
            sitting = house.sitting;
            deeds = 0;
        }

        void record() {
            if (deeds >= MOST_DEEDS) {
                forgetEldest();
            }
            pastBills[deeds] = at.bill;
            pastSpoke[deeds] = at.spoke;
            pastSitting[deeds] = sitting;
            deeds++;
        }

        private void forgetEldest() {
            deeds = MOST_DEEDS - 1;
            System.arraycopy(pastBills, 1, pastBills, 0, deeds);
            System.arraycopy(pastSpoke, 1, pastSpoke, 0, deeds);
            System.arraycopy(pastSitting, 1, pastSitting, 0, deeds);
        }

        void takeBack() {
            if (deeds <= 0 || deeds > MOST_DEEDS) {
                return;
            }
            deeds--;
            at.bill = pastBills[deeds];
            at.spoke = pastSpoke[deeds];
            sitting = pastSitting[deeds];
        }

        void copyFrom(Standing other) {
            at.bill = other.at.bill;
            at.spoke = other.at.spoke;
            sitting = other.sitting;
            deeds = other.deeds;
            System.arraycopy(other.pastBills, 0, pastBills, 0, MOST_DEEDS);
            System.arraycopy(other.pastSpoke, 0, pastSpoke, 0, MOST_DEEDS);
            System.arraycopy(other.pastSitting, 0, pastSitting, 0, MOST_DEEDS);
        }
    }

    /** All but the tape, the fault and the trays. */
    private static final class Image {
        final House house = new House();
        final Standing standing = new Standing();
    }

    /** A row of numbers of one sort. */
    private static final class Tray {
        int many;
        private int sort;
        private final long[] row = new long[TRAY_LENGTH];

        void layOut(int newSort, int newMany) {
            sort = newSort;
            many = newMany;
            Arrays.fill(row, 0L);
        }

        void put(int place, long v) {
            if (place >= 0 && place < row.length) {
                row[place] = cut(v);
            }
        }

        long numberAt(int place) {
            return place >= 0 && place < row.length ? row[place] : 0;
        }

        private long cut(long v) {
            switch (sort) {
                case 0:
                    return (byte) v;
                case 1:
                    return (short) v;
                case 2:
                    return (int) v;
                default:
                    return v;
            }
        }
    }

    /** The laws of a house; what they once answered is kept, for they are asked again and again. */
    private static final class Laws {
        private static final int BOUND = 1_000_000;
        /** What is kept is kept so much higher: 0 is not yet known. */
        private static final int KNOWN = 1;
        /** Six nestings of at most five waiting operands each need far less. */
        private static final int STACK = 64;

        private final House house;
        private final int[] pinchedRow = new int[BILLS];
        private final int[] changedRow = new int[BILLS * MOST_PEOPLE];
        private final int[] values = new int[NOT - WORD_ONE];
        private final int[] stack = new int[STACK];

        Laws(House house) {
            this.house = house;
        }

        void forget() {
            Arrays.fill(pinchedRow, 0);
            Arrays.fill(changedRow, 0);
        }

        /** All whom a bill pinches, whether they sit or not, as bits. */
        int pinchedBy(int bill) {
            if (bill < 0 || bill >= BILLS) {
                return 0;
            }
            if (pinchedRow[bill] != 0) {
                return pinchedRow[bill] - KNOWN;
            }
            int people = 0;
            setFigures(bill);
            for (int p = 0; p < house.people; p++) {
                setMarks(p);
                boolean pinches = values[WORD_HAT - WORD_ONE] > values[0];
                if (house.hasPinches()) {
                    pinches = valueOf(house.pinchesFrom, house.pinchesTo) != 0;
                }
                if (pinches) {
                    people |= 1 << p;
                }
            }
            pinchedRow[bill] = people + KNOWN;
            return people;
        }

        /** What a bill is when a person has spoken to it. */
        int changedBy(int bill, int p) {
            if (bill < 0 || bill >= BILLS || p < 0 || p >= MOST_PEOPLE) {
                return bill;
            }
            int i = bill * MOST_PEOPLE + p;
            if (changedRow[i] != 0) {
                return changedRow[i] - KNOWN;
            }
            int changed = 0;
            setFigures(bill);
            setMarks(p);
            for (int line = 0; line < house.lines; line++) {
                int figure = figureOf(bill, line);
                int way = house.markOf(p, line) - figure;
                if (house.hasChanges()) {
                    values[WORD_LINE - WORD_ONE] = line;
                    way = valueOf(house.changesFrom, house.changesTo);
                }
                changed = changed * 10 + moved(figure, way);
            }
            changed *= house.unit();
            changedRow[i] = changed + KNOWN;
            return changed;
        }

        private static int moved(int figure, int way) {
            if (way < 0) {
                return Math.max(0, figure - 1);
            }
            return way > 0 ? Math.min(9, figure + 1) : figure;
        }

        private void setFigures(int bill) {
            for (int line = 0; line < MOST_LINES; line++) {
                values[line] = figureOf(bill, line);
            }
        }

        private void setMarks(int p) {
            for (int line = 0; line < MOST_LINES; line++) {
                values[WORD_HAT - WORD_ONE + line] = house.markOf(p, line);
            }
            values[WORD_WHO - WORD_ONE] = p;
        }

        private int valueOf(int from, int to) {
            int top = 0;
            for (int i = from; i < to; i++) {
                int c = house.codeAt(i);
                if (c < NOT) {
                    if (top >= STACK) {
                        return 0;
                    }
                    stack[top] = c < WORD_ONE ? c : values[c - WORD_ONE];
                    top++;
                } else if (c == NOT) {
                    if (top < 1) {
                        return 0;
                    }
                    stack[top - 1] = 1 - stack[top - 1];
                } else {
                    if (top < 2) {
                        return 0;
                    }
                    top--;
                    stack[top - 1] = joined(c, stack[top - 1], stack[top]);
                }
            }
            return stack[0];
        }

        private static int joined(int c, int a, int b) {
            switch (c) {
                case AND:
                    return a & b;
                case OR:
                    return a | b;
                case EQUAL:
                    return a == b ? 1 : 0;
                case BELOW:
                    return a < b ? 1 : 0;
                case ABOVE:
                    return a > b ? 1 : 0;
                default:
                    long v = c == PLUS ? (long) a + b : c == MINUS ? (long) a - b : (long) a * b;
                    return (int) Math.max(-BOUND, Math.min(BOUND, v));
            }
        }

        /** Of people as bits the next one behind who spoke last, who comes last. */
        static int speaker(int people, int spoke) {
            if (people == 0) {
                return NONE;
            }
            int behind = people & (-1 << (spoke + 1));
            int from = behind == 0 ? people : behind;
            return Integer.bitCount((from & -from) - 1);
        }

        boolean isLaw(int bill, int sitting) {
            return (pinchedBy(bill) & sitting) == 0;
        }

        /** Goes one step, if anybody is pinched, and answers who spoke. */
        int step(Walk walk, int sitting) {
            int p = speaker(pinchedBy(walk.bill) & sitting, walk.spoke);
            if (p != NONE) {
                walk.bill = changedBy(walk.bill, p);
                walk.spoke = p;
            }
            return p;
        }

        int stepOften(Walk walk, int n, int sitting) {
            int done = 0;
            while (done < n && step(walk, sitting) != NONE) {
                done++;
            }
            return done;
        }
    }

    /** Finds out where bills go from a draft, by those who sit. */
    private static final class Reckoner {
        private static final int STATES = BILLS * (MOST_PEOPLE + 1);
        private static final int MARKS_USED_UP = 2_000_000_000;
        private static final int UNKNOWN = -2;

        final Laws laws;
        final Walk first = new Walk();
        final Walk second = new Walk();
        /** Of the latest trace: the law it ends in; steps till then, or till the ring is gone round. */
        int end;
        int length;
        int ringStart;
        private final House house;
        private final int[] marks = new int[STATES];
        private int nextMark = 1;
        /** Of all bills, in their order, what a trace finds, for one set of people. */
        private final int[] endRow = new int[BILLS];
        private final int[] lengthRow = new int[BILLS];
        private int settledFor = NONE;
        private final int[] endOfSet = new int[SETS];
        private int setsOf = NONE;
        private final int[] speeches = new int[MOST_PEOPLE];
        private final int[] tally = new int[BILLS];
        /** The latest bills found, the least first. */
        private final int[] found = new int[BILLS];
        private int foundMany;

        Reckoner(House house) {
            this.house = house;
            this.laws = new Laws(house);
        }

        void forgetAll() {
            laws.forget();
            settledFor = NONE;
            setsOf = NONE;
        }

        int billIn(int bill, int n, int sitting) {
            first.start(bill);
            laws.stepOften(first, n, sitting);
            return first.bill;
        }

        /** Goes on till a law, or till bill and who spoke last come again. */
        void trace(int bill, int sitting) {
            int base = freshMarks();
            first.start(bill);
            for (int i = 0; i <= STATES; i++) {
                int state = first.bill * (MOST_PEOPLE + 1) + first.spoke + 1;
                if (state < 0 || state >= STATES) {
                    return;
                }
                length = i;
                if (marks[state] >= base) {
                    ringStart = marks[state] - base;
                    end = NONE;
                    return;
                }
                marks[state] = base + i;
                if (laws.step(first, sitting) == NONE) {
                    end = first.bill;
                    return;
                }
            }
        }

        /** Marks of earlier traces lie below the answer, so that the row needs no clearing each time. */
        private int freshMarks() {
            if (nextMark > MARKS_USED_UP) {
                Arrays.fill(marks, 0);
                nextMark = 1;
            }
            int base = nextMark;
            nextMark += STATES + 1;
            return base;
        }

        private void settleAll(int sitting) {
            if (settledFor == sitting) {
                return;
            }
            for (int i = 0; i < house.bills(); i++) {
                int b = house.billAt(i);
                trace(b, sitting);
                endRow[i] = end;
                lengthRow[i] = length;
            }
            settledFor = sitting;
        }

        int howManyEndIn(int law, int sitting) {
            settleAll(sitting);
            int many = 0;
            for (int i = 0; i < house.bills(); i++) {
                if (endRow[i] == law) {
                    many++;
                }
            }
            return many;
        }

        int longestWay(int sitting) {
            settleAll(sitting);
            int best = NONE;
            int most = -1;
            for (int i = 0; i < house.bills(); i++) {
                if (endRow[i] != NONE && lengthRow[i] > most) {
                    best = house.billAt(i);
                    most = lengthRow[i];
                }
            }
            return best;
        }

        /** The law in which a bill ends when a set of people sits. */
        int endWith(int bill, int set) {
            if (set < 0 || set >= SETS) {
                return NONE;
            }
            if (setsOf != bill) {
                Arrays.fill(endOfSet, UNKNOWN);
                setsOf = bill;
            }
            if (endOfSet[set] == UNKNOWN) {
                trace(bill, set);
                endOfSet[set] = end;
            }
            return endOfSet[set];
        }

        /** A goal of NONE: in whatever law. */
        int fewestSeats(int bill, int goal) {
            int sets = 1 << house.people;
            for (int many = 0; many <= house.people; many++) {
                for (int set = 0; set < sets; set++) {
                    int law = Integer.bitCount(set) == many ? endWith(bill, set) : NONE;
                    if (law != NONE && (goal == NONE || goal == law)) {
                        return set;
                    }
                }
            }
            return NONE;
        }

        /** How likely a bill ends, of house.wholeChance(), when one stays away (NONE: nobody). */
        long chanceWithout(int bill, int absent) {
            long chance = 0;
            int sets = 1 << house.people;
            for (int set = 0; set < sets; set++) {
                long weight = weightOf(set, absent);
                if (weight != 0 && endWith(bill, set) != NONE) {
                    chance += weight;
                }
            }
            return chance;
        }

        private long weightOf(int set, int absent) {
            long weight = 1;
            for (int p = 0; p < house.people && weight != 0; p++) {
                int comes = p == absent ? 0 : house.temperOf(p);
                weight *= (set >> p & 1) == 1 ? comes : SURE - comes;
            }
            return weight;
        }

        void countSpeeches(int bill, int n, int sitting) {
            Arrays.fill(speeches, 0);
            first.start(bill);
            for (int i = 0; i < n; i++) {
                int p = laws.step(first, sitting);
                if (p < 0 || p >= MOST_PEOPLE) {
                    return;
                }
                speeches[p]++;
            }
        }

        int speechesOf(int p) {
            return p >= 0 && p < MOST_PEOPLE ? speeches[p] : 0;
        }

        private boolean looksSo(int bill, Tray seen, int sitting) {
            first.start(bill);
            for (int i = 0; i < seen.many; i++) {
                long v = seen.numberAt(i);
                if (v != NONE && v != first.bill) {
                    return false;
                }
                laws.step(first, sitting);
            }
            return true;
        }

        int findLaws(int sitting) {
            foundMany = 0;
            for (int i = 0; i < house.bills(); i++) {
                int b = house.billAt(i);
                if (laws.isLaw(b, sitting)) {
                    addFound(b);
                }
            }
            return foundMany;
        }

        int findBefore(int bill, int n, int sitting) {
            foundMany = 0;
            for (int i = 0; i < house.bills(); i++) {
                int b = house.billAt(i);
                if (billIn(b, n, sitting) == bill) {
                    addFound(b);
                }
            }
            return foundMany;
        }

        int findSeen(Tray seen, int sitting) {
            foundMany = 0;
            for (int i = 0; i < house.bills(); i++) {
                int b = house.billAt(i);
                if (looksSo(b, seen, sitting)) {
                    addFound(b);
                }
            }
            return foundMany;
        }

        private void addFound(int bill) {
            if (foundMany < BILLS) {
                found[foundMany] = bill;
                foundMany++;
            }
        }

        int foundAt(int k) {
            return k >= 0 && k < foundMany && k < BILLS ? found[k] : NONE;
        }

        /** Of the bills found, how many at most are one and the same bill in n steps. */
        int mostAlikeIn(int n, int sitting) {
            Arrays.fill(tally, 0);
            int most = 0;
            for (int k = 0; k < foundMany; k++) {
                int then = billIn(foundAt(k), n, sitting);
                if (then >= 0 && then < BILLS) {
                    tally[then]++;
                    most = Math.max(most, tally[then]);
                }
            }
            return most;
        }

        void startBoth(int bill, int other) {
            first.start(bill);
            second.start(other);
        }

        boolean areBothLaws(int sitting) {
            return laws.isLaw(first.bill, sitting) && laws.isLaw(second.bill, sitting);
        }

        void round(int sitting) {
            int p = laws.step(first, sitting);
            laws.step(second, p == NONE ? sitting : sitting & ~(1 << p));
        }

        void copyWay(int bill, Tray into, int sitting) {
            first.start(bill);
            for (int i = 0; i < into.many; i++) {
                into.put(i, first.bill);
                laws.step(first, sitting);
            }
        }
    }
}
