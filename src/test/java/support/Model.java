import java.util.ArrayList;
import java.util.HashMap;
import java.util.List;
import java.util.Map;
import java.util.NoSuchElementException;
import java.util.TreeMap;

/**
 * The document written down a second time, as slowly and plainly as can be, with the Java library:
 * random runs are held against it.
 */
public final class Model {
    static final int NONE = -1;

    /** The text is refused at a place. */
    static final class Refused extends RuntimeException {
        final int kind;
        final int place;

        Refused(int kind, int place) {
            this.kind = kind;
            this.place = place;
        }
    }

    record Token(char sort, String text, int place) {
        boolean is(String s) {
            return sort != 'x' && text.equals(s);
        }
    }

    interface Env {
        int get(String word);
    }

    interface Expr {
        int value(Env e);
    }

    record Person(int[] marks, int temper, boolean sits) {
    }

    static final class House {
        int textLines = 0;
        int lines = 1;
        List<Person> people = new ArrayList<>();
        int[] bill = new int[3];
        Expr pinches = null;
        Expr changes = null;
    }

    /** Bill, who spoke, who sits. */
    record State(int bill, int spoke, int sitting) {
    }

    record Kept(House house, State state, List<State> deeds) {
    }

    private final List<Byte> tape = new ArrayList<>();
    private House h = new House();
    private State s = new State(0, NONE, 0);
    private List<State> deeds = new ArrayList<>();
    private int fault = 0;
    private int place = NONE;
    private final long[][] trays = new long[4][];
    private final int[] sorts = new int[4];
    private final Kept[] images = new Kept[3];

    public int feed(int a, int b, int c, int d, int e) {
        if (tape.size() + 20 > 900) {
            return NONE;
        }
        for (int v : new int[] {a, b, c, d, e}) {
            tape.add((byte) (v >>> 24));
            tape.add((byte) (v >>> 16));
            tape.add((byte) (v >>> 8));
            tape.add((byte) v);
        }
        return tape.size();
    }

    public int house(int n) {
        if (n < 0 || n > tape.size()) {
            throw new IllegalArgumentException();
        }
        StringBuilder text = new StringBuilder();
        for (int i = 0; i < n; i++) {
            text.append((char) (tape.get(i) & 255));
        }
        tape.clear();
        try {
            House read = new Parser(text.toString()).house();
            fault = 0;
            place = NONE;
            h = read;
            int sitting = 0;
            for (int p = 0; p < h.people.size(); p++) {
                sitting += h.people.get(p).sits ? 1 << p : 0;
            }
            s = new State(100 * h.bill[0] + 10 * h.bill[1] + h.bill[2], NONE, sitting);
            deeds = new ArrayList<>();
            return h.textLines;
        } catch (Refused r) {
            fault = r.kind;
            place = r.place;
            return -10 - r.kind;
        }
    }

    static List<Token> tokens(String t) {
        List<Token> list = new ArrayList<>();
        int i = 0;
        while (i < t.length()) {
            char c = t.charAt(i);
            int j = i + 1;
            if (c == 10 || c == 32) {
                i++;
                continue;
            }
            char sort = 'x';
            if (c >= 'a' && c <= 'z') {
                while (j < t.length() && t.charAt(j) >= 'a' && t.charAt(j) <= 'z') {
                    j++;
                }
                sort = 'w';
            } else if (c >= '0' && c <= '9') {
                while (j < t.length() && t.charAt(j) >= '0' && t.charAt(j) <= '9') {
                    j++;
                }
                sort = j - i <= 3 ? 'n' : 'x';
            } else if (";:+-*()[]=<>".indexOf(c) >= 0) {
                sort = 's';
            }
            list.add(new Token(sort, t.substring(i, j), i));
            i = j;
        }
        list.add(new Token('e', "", t.length()));
        return list;
    }

    static final class Parser {
        final List<Token> list;
        int at = 0;
        House h = new House();

        Parser(String text) {
            list = tokens(text);
        }

        Token look() {
            return list.get(at);
        }

        Refused refused() {
            return new Refused(look().sort == 'x' ? 1 : 2, look().place);
        }

        void take(String word) {
            if (!look().is(word)) {
                throw refused();
            }
            at++;
        }

        boolean took(String word) {
            boolean is = look().is(word);
            at += is ? 1 : 0;
            return is;
        }

        int number(int least, int most) {
            if (look().sort != 'n') {
                throw refused();
            }
            int v = Integer.parseInt(look().text);
            if (v < least || v > most) {
                throw new Refused(3, look().place);
            }
            at++;
            return v;
        }

        House house() {
            take("house");
            take("lines");
            h.lines = number(1, 3);
            take(";");
            h.textLines = 1;
            while (look().sort != 'e') {
                line();
                take(";");
                h.textLines++;
            }
            return h;
        }

        void line() {
            if (look().is("person") && h.people.size() == 8) {
                throw new Refused(4, look().place);
            }
            if (took("person")) {
                int[] marks = figures();
                int temper = 10;
                boolean sits = true;
                while (true) {
                    if (took("out")) {
                        sits = false;
                    } else if (took("temper")) {
                        temper = number(0, 10);
                    } else {
                        break;
                    }
                }
                h.people.add(new Person(marks, temper, sits));
            } else if (took("bill")) {
                h.bill = figures();
            } else if (took("pinches")) {
                take(":");
                h.pinches = truth(0, false);
            } else if (took("changes")) {
                take(":");
                h.changes = sum(0, true);
            } else {
                throw refused();
            }
        }

        int[] figures() {
            int[] f = new int[3];
            for (int i = 0; i < h.lines; i++) {
                f[i] = number(0, 9);
            }
            return f;
        }

        void deeper(int depth) {
            if (depth == 6) {
                throw new Refused(4, look().place);
            }
        }

        Expr truth(int depth, boolean line) {
            Expr left = both(depth, line);
            while (took("or")) {
                Expr a = left;
                Expr b = both(depth, line);
                left = e -> a.value(e) + b.value(e) > 0 ? 1 : 0;
            }
            return left;
        }

        Expr both(int depth, boolean line) {
            Expr left = unit(depth, line);
            while (took("and")) {
                Expr a = left;
                Expr b = unit(depth, line);
                left = e -> a.value(e) * b.value(e);
            }
            return left;
        }

        Expr unit(int depth, boolean line) {
            if (look().is("not")) {
                deeper(depth);
                at++;
                Expr a = unit(depth + 1, line);
                return e -> a.value(e) == 0 ? 1 : 0;
            }
            if (look().is("[")) {
                deeper(depth);
                at++;
                Expr a = truth(depth + 1, line);
                take("]");
                return a;
            }
            Expr a = sum(depth, line);
            if (took("=")) {
                Expr b = sum(depth, line);
                return e -> a.value(e) == b.value(e) ? 1 : 0;
            }
            if (took("<")) {
                Expr b = sum(depth, line);
                return e -> a.value(e) < b.value(e) ? 1 : 0;
            }
            take(">");
            Expr b = sum(depth, line);
            return e -> a.value(e) > b.value(e) ? 1 : 0;
        }

        static int kept(long v) {
            return (int) Math.min(1000000, Math.max(-1000000, v));
        }

        Expr sum(int depth, boolean line) {
            Expr left = term(depth, line);
            while (look().is("+") || look().is("-")) {
                int sign = look().is("+") ? 1 : -1;
                at++;
                Expr a = left;
                Expr b = term(depth, line);
                left = e -> kept((long) a.value(e) + sign * (long) b.value(e));
            }
            return left;
        }

        Expr term(int depth, boolean line) {
            Expr left = atom(depth, line);
            while (took("*")) {
                Expr a = left;
                Expr b = atom(depth, line);
                left = e -> kept((long) a.value(e) * b.value(e));
            }
            return left;
        }

        Expr atom(int depth, boolean line) {
            if (look().sort == 'n') {
                int v = number(0, 999);
                return e -> v;
            }
            if (look().is("(")) {
                deeper(depth);
                at++;
                Expr a = sum(depth + 1, line);
                take(")");
                return a;
            }
            String word = look().text;
            boolean known = List.of("one", "two", "three", "hat", "head", "height", "who").contains(word);
            if (look().sort == 'w' && (known || line && word.equals("line"))) {
                at++;
                return e -> e.get(word);
            }
            throw refused();
        }
    }

    private static int figure(int bill, int line) {
        return bill / (line == 0 ? 100 : line == 1 ? 10 : 1) % 10;
    }

    private Env env(int bill, int p, int line) {
        int[] marks = h.people.get(p).marks;
        return word -> switch (word) {
            case "one" -> figure(bill, 0);
            case "two" -> figure(bill, 1);
            case "three" -> figure(bill, 2);
            case "hat" -> marks[0];
            case "head" -> marks[1];
            case "height" -> marks[2];
            case "who" -> p;
            default -> line;
        };
    }

    private boolean pinches(int bill, int p) {
        if (h.pinches == null) {
            return h.people.get(p).marks[0] > figure(bill, 0);
        }
        return h.pinches.value(env(bill, p, 0)) == 1;
    }

    private int change(int bill, int p) {
        int[] f = new int[3];
        for (int i = 0; i < h.lines; i++) {
            int way = h.changes == null ? h.people.get(p).marks[i] - figure(bill, i) : h.changes.value(env(bill, p, i));
            f[i] = figure(bill, i) + (way < 0 ? -1 : way > 0 ? 1 : 0);
            f[i] = f[i] < 0 ? 0 : f[i] > 9 ? 9 : f[i];
        }
        return 100 * f[0] + 10 * f[1] + f[2];
    }

    private int speaker(State t) {
        int n = h.people.size();
        int from = t.spoke + 1;
        for (int i = 0; i < n; i++) {
            int p = (from + i) % n;
            if ((t.sitting >> p & 1) == 1 && pinches(t.bill, p)) {
                return p;
            }
        }
        return NONE;
    }

    private boolean isLaw(State t) {
        return speaker(t) == NONE;
    }

    private State step(State t) {
        int p = speaker(t);
        return p == NONE ? t : new State(change(t.bill, p), p, t.sitting);
    }

    private State drafted(int bill) {
        return new State(bill, NONE, s.sitting);
    }

    private List<Integer> bills() {
        List<Integer> list = new ArrayList<>();
        for (int b = 0; b < 1000; b++) {
            if (isBill(b)) {
                list.add(b);
            }
        }
        return list;
    }

    private boolean isBill(long b) {
        if (b < 0 || b > 999) {
            return false;
        }
        for (int i = h.lines; i < 3; i++) {
            if (figure((int) b, i) != 0) {
                return false;
            }
        }
        return true;
    }

    private void mustBill(int b) {
        must(isBill(b));
    }

    private void mustPerson(int p) {
        if (p < 0 || p >= h.people.size()) {
            throw new NoSuchElementException();
        }
    }

    private static void must(boolean so) {
        if (!so) {
            throw new IllegalArgumentException();
        }
    }

    public int fault(int what) {
        return what == 0 ? fault : what == 1 ? place : NONE;
    }

    public int person(int p, int what) {
        mustPerson(p);
        must(what >= 0 && what <= 5);
        if (what < 3) {
            return h.people.get(p).marks[what];
        }
        if (what == 3) {
            return h.people.get(p).temper;
        }
        return what == 4 ? s.sitting >> p & 1 : pinches(s.bill, p) ? 1 : 0;
    }

    public int bill() {
        return s.bill;
    }

    public int spoke() {
        return s.spoke;
    }

    public int next() {
        return speaker(s);
    }

    public int pinched(int bill) {
        mustBill(bill);
        int bits = 0;
        for (int p = 0; p < h.people.size(); p++) {
            bits += (s.sitting >> p & 1) == 1 && pinches(bill, p) ? 1 << p : 0;
        }
        return bits;
    }

    public int spoken(int bill, int p) {
        mustPerson(p);
        mustBill(bill);
        return change(bill, p);
    }

    private void deed(State then) {
        deeds.add(s);
        if (deeds.size() > 10) {
            deeds.remove(0);
        }
        s = then;
    }

    public int steps(int n) {
        must(n >= 1 && n <= 999);
        State t = s;
        int done = 0;
        while (done < n && !isLaw(t)) {
            t = step(t);
            done++;
        }
        deed(t);
        return done;
    }

    public int draft(int bill) {
        if (!isBill(bill)) {
            return -1;
        }
        int was = s.bill;
        deed(drafted(bill));
        return was;
    }

    public int send(int p) {
        return seat(p, 0);
    }

    public int call(int p) {
        return seat(p, 1);
    }

    private int seat(int p, int to) {
        if (p < 0 || p >= h.people.size()) {
            return -1;
        }
        if ((s.sitting >> p & 1) == to) {
            return -2;
        }
        deed(new State(s.bill, s.spoke, s.sitting ^ 1 << p));
        return Integer.bitCount(s.sitting);
    }

    public int undo(int n) {
        must(n >= 1 && n <= 10 && n <= deeds.size());
        for (int i = 0; i < n; i++) {
            s = deeds.remove(deeds.size() - 1);
        }
        return deeds.size();
    }

    /** 0, or why not. */
    private int told(long v) {
        if (v == NONE) {
            deed(step(s));
            return 0;
        }
        if (v < 0 || v > 2999) {
            return 1;
        }
        if (v < 1000) {
            return draft((int) v) < 0 ? 1 : 0;
        }
        int r = v < 2000 ? send((int) v - 1000) : call((int) v - 2000);
        return r < 0 ? -r : 0;
    }

    private long[] row(int tray) {
        if (tray < 0 || tray > 3) {
            throw new NoSuchElementException();
        }
        if (trays[tray] == null) {
            throw new IllegalStateException();
        }
        return trays[tray];
    }

    public int judge(int tray, int what) {
        long[] row = row(tray);
        must(what >= 0 && what <= 3);
        State was = s;
        List<State> wasDeeds = new ArrayList<>(deeds);
        int where = NONE;
        int why = 0;
        for (int i = 0; i < row.length && why == 0; i++) {
            why = told(row[i]);
            where = why == 0 ? NONE : i;
        }
        int[] answers = {where, why, s.bill, s.sitting};
        s = was;
        deeds = wasDeeds;
        return answers[what];
    }

    public int perform(int tray) {
        int done = 0;
        for (long v : row(tray)) {
            if (told(v) != 0) {
                break;
            }
            done++;
        }
        return done;
    }

    public int winter(int seed, int times) {
        must(times >= 1 && times <= 30);
        int x = seed;
        int could = 0;
        for (int i = 0; i < times; i++) {
            x = 1103515245 * x + 12345;
            int sort = (x >>> 16) % 5;
            long v = NONE;
            if (sort >= 2) {
                x = 1103515245 * x + 12345;
                int draw = x >>> 16;
                v = sort == 2 ? draw % 1000 : sort == 3 ? 1000 + draw % 8 : 2000 + draw % 8;
            }
            could += told(v) == 0 ? 1 : 0;
        }
        return could;
    }

    /** All states from a draft on, till a law (last) or till one comes again (last, the same as an earlier one). */
    private List<State> way(State from) {
        List<State> list = new ArrayList<>();
        Map<State, Integer> known = new HashMap<>();
        State t = from;
        while (true) {
            list.add(t);
            if (isLaw(t) || known.containsKey(t)) {
                return list;
            }
            known.put(t, list.size() - 1);
            t = step(t);
        }
    }

    private int endOf(State from) {
        List<State> w = way(from);
        State last = w.get(w.size() - 1);
        return isLaw(last) ? last.bill : NONE;
    }

    public int ends(int bill) {
        mustBill(bill);
        return endOf(drafted(bill));
    }

    public int takes(int bill) {
        mustBill(bill);
        List<State> w = way(drafted(bill));
        return isLaw(w.get(w.size() - 1)) ? w.size() - 1 : NONE;
    }

    private State in(State from, int n) {
        State t = from;
        for (int i = 0; i < n; i++) {
            t = step(t);
        }
        return t;
    }

    public int goes(int bill, int n) {
        mustBill(bill);
        must(n >= 0 && n <= 9999);
        return in(drafted(bill), n).bill;
    }

    public int ring(int bill, int what) {
        mustBill(bill);
        must(what == 0 || what == 1 || what >= 10 && what <= 19);
        List<State> w = way(drafted(bill));
        State last = w.get(w.size() - 1);
        if (isLaw(last)) {
            return NONE;
        }
        int start = w.indexOf(last);
        int length = w.size() - 1 - start;
        if (what < 2) {
            return what == 0 ? length : start;
        }
        return what - 10 < length ? w.get(start + what - 10).bill : NONE;
    }

    private List<Integer> allLaws() {
        List<Integer> list = new ArrayList<>();
        for (int b : bills()) {
            if (isLaw(drafted(b))) {
                list.add(b);
            }
        }
        return list;
    }

    private static int at(List<Integer> list, int k) {
        must(k >= 0);
        return k < list.size() ? list.get(k) : NONE;
    }

    public int laws() {
        return allLaws().size();
    }

    public int law(int k) {
        return at(allLaws(), k);
    }

    public int into(int bill) {
        mustBill(bill);
        int n = 0;
        for (int b : bills()) {
            n += ends(b) == bill ? 1 : 0;
        }
        return n;
    }

    public int endless() {
        int n = 0;
        for (int b : bills()) {
            n += ends(b) == NONE ? 1 : 0;
        }
        return n;
    }

    public int longest() {
        int best = NONE;
        for (int b : bills()) {
            if (takes(b) != NONE && (best == NONE || takes(b) > takes(best))) {
                best = b;
            }
        }
        return best;
    }

    public int nearest(int bill) {
        mustBill(bill);
        TreeMap<Integer, Integer> byFar = new TreeMap<>();
        for (int b : allLaws()) {
            int far = 0;
            for (int i = 0; i < 3; i++) {
                far += Math.abs(figure(b, i) - figure(bill, i));
            }
            byFar.putIfAbsent(far, b);
        }
        return byFar.isEmpty() ? NONE : byFar.firstEntry().getValue();
    }

    public int seats(int bill, int goal, int what) {
        mustBill(bill);
        must(goal == NONE || isBill(goal));
        must(what == 0 || what == 1);
        int best = NONE;
        for (int set = 0; set < 1 << h.people.size(); set++) {
            int end = endOf(new State(bill, NONE, set));
            boolean good = goal == NONE ? end != NONE : end == goal;
            if (good && (best == NONE || Integer.bitCount(set) < Integer.bitCount(best))) {
                best = set;
            }
        }
        return best == NONE ? NONE : what == 0 ? Integer.bitCount(best) : best;
    }

    public int hire(int bill) {
        mustBill(bill);
        if (ends(bill) != NONE) {
            return NONE;
        }
        for (int p = 0; p < h.people.size(); p++) {
            if ((s.sitting >> p & 1) == 0 && endOf(new State(bill, NONE, s.sitting | 1 << p)) != NONE) {
                return p;
            }
        }
        return NONE;
    }

    public int weighty(int bill) {
        mustBill(bill);
        int bits = 0;
        for (int p = 0; p < h.people.size(); p++) {
            if ((s.sitting >> p & 1) == 1 && endOf(new State(bill, NONE, s.sitting - (1 << p))) != ends(bill)) {
                bits |= 1 << p;
            }
        }
        return bits;
    }

    private int[] speeches(int bill, int n) {
        int[] many = new int[8];
        State t = drafted(bill);
        for (int i = 0; i < n && !isLaw(t); i++) {
            t = step(t);
            many[t.spoke]++;
        }
        return many;
    }

    public int share(int bill, int p, int n) {
        mustPerson(p);
        mustBill(bill);
        must(n >= 0 && n <= 9999);
        return speeches(bill, n)[p];
    }

    public int sorest(int bill) {
        mustBill(bill);
        int[] many = speeches(bill, way(drafted(bill)).size() - 1);
        int best = NONE;
        for (int p = 0; p < 8; p++) {
            if (many[p] > (best == NONE ? 0 : many[best])) {
                best = p;
            }
        }
        return best;
    }

    private List<Integer> befores(int bill, int n) {
        mustBill(bill);
        must(n >= 0 && n <= 99);
        List<Integer> list = new ArrayList<>();
        for (int b : bills()) {
            if (goes(b, n) == bill) {
                list.add(b);
            }
        }
        return list;
    }

    public int before(int bill, int n) {
        return befores(bill, n).size();
    }

    public int beforeAt(int bill, int n, int k) {
        return at(befores(bill, n), k);
    }

    private List<Integer> seens(int tray) {
        long[] row = row(tray);
        must(row.length >= 1 && row.length <= 8);
        for (long v : row) {
            must(v == NONE || isBill(v));
        }
        List<Integer> list = new ArrayList<>();
        for (int b : bills()) {
            boolean so = true;
            for (int i = 0; i < row.length; i++) {
                so &= row[i] == NONE || goes(b, i) == row[i];
            }
            if (so) {
                list.add(b);
            }
        }
        return list;
    }

    public int seen(int tray) {
        return seens(tray).size();
    }

    public int seenAt(int tray, int k) {
        return at(seens(tray), k);
    }

    public int ask(int tray) {
        List<Integer> list = seens(tray);
        long[] row = row(tray);
        int best = NONE;
        int least = 0;
        for (int i = 0; i < row.length; i++) {
            if (row[i] == NONE && !list.isEmpty()) {
                Map<Integer, Integer> groups = new HashMap<>();
                for (int b : list) {
                    groups.merge(goes(b, i), 1, Integer::sum);
                }
                int most = 0;
                for (int g : groups.values()) {
                    most = Math.max(most, g);
                }
                if (best == NONE || most < least) {
                    best = i;
                    least = most;
                }
            }
        }
        return best;
    }

    private State[] round(State a, State b) {
        State a2 = step(a);
        int without = isLaw(a) ? b.sitting : b.sitting & ~(1 << a2.spoke);
        State b2 = step(new State(b.bill, b.spoke, without));
        return new State[] {a2, new State(b2.bill, b2.spoke, b.sitting)};
    }

    public int both(int bill, int other) {
        mustBill(bill);
        mustBill(other);
        State[] two = {drafted(bill), drafted(other)};
        for (int r = 0; r < 10000; r++) {
            if (isLaw(two[0]) && isLaw(two[1])) {
                return r;
            }
            two = round(two[0], two[1]);
        }
        return NONE;
    }

    public int bothIn(int bill, int other, int n, int which) {
        mustBill(bill);
        mustBill(other);
        must(which == 0 || which == 1);
        must(n >= 0 && n <= 9999);
        State[] two = {drafted(bill), drafted(other)};
        for (int r = 0; r < n; r++) {
            two = round(two[0], two[1]);
        }
        return two[which].bill;
    }

    /** How likely, of 10 to the number of people. */
    private long likely(int bill, int absent) {
        long sum = 0;
        for (int set = 0; set < 1 << h.people.size(); set++) {
            if (endOf(new State(bill, NONE, set)) != NONE) {
                long w = 1;
                for (int p = 0; p < h.people.size(); p++) {
                    int t = p == absent ? 0 : h.people.get(p).temper;
                    w *= (set >> p & 1) == 1 ? t : 10 - t;
                }
                sum += w;
            }
        }
        return sum;
    }

    public long chance(int bill, int what) {
        mustBill(bill);
        must(what == 0 || what == 1);
        long below = 1;
        for (int p = 0; p < h.people.size(); p++) {
            below *= 10;
        }
        long above = likely(bill, NONE);
        for (int prime : new int[] {2, 5}) {
            while (above % prime == 0 && below % prime == 0) {
                above /= prime;
                below /= prime;
            }
        }
        return what == 0 ? above : below;
    }

    public int away(int bill) {
        mustBill(bill);
        int best = NONE;
        for (int p = 0; p < h.people.size(); p++) {
            if (likely(bill, p) > likely(bill, best)) {
                best = p;
            }
        }
        return best;
    }

    public void tray(int tray, int sort, int many) {
        if (tray < 0 || tray > 3) {
            throw new NoSuchElementException();
        }
        must(sort >= 0 && sort <= 3 && many >= 0 && many <= 30);
        trays[tray] = new long[many];
        sorts[tray] = sort;
    }

    public long write(int tray, int place, long v) {
        long[] row = row(tray);
        if (place < 0 || place >= row.length) {
            throw new IndexOutOfBoundsException();
        }
        int cut = 64 - (8 << sorts[tray]);
        row[place] = v << cut >> cut;
        return row[place];
    }

    public int copy(int tray, int bill) {
        long[] row = row(tray);
        mustBill(bill);
        for (int i = 0; i < row.length; i++) {
            write(tray, i, goes(bill, i));
        }
        return row.length;
    }

    public void image(int i) {
        if (i < 0 || i > 2) {
            throw new NoSuchElementException();
        }
        images[i] = new Kept(h, s, new ArrayList<>(deeds));
    }

    public void restore(int i) {
        if (i < 0 || i > 2) {
            throw new NoSuchElementException();
        }
        if (images[i] == null) {
            throw new IllegalStateException();
        }
        h = images[i].house;
        s = images[i].state;
        deeds = new ArrayList<>(images[i].deeds);
    }

    public int count(int what) {
        switch (what) {
            case 0: return h.textLines;
            case 1: return h.lines;
            case 2: return h.people.size();
            case 3: return s.sitting;
            case 4: return Integer.bitCount(s.sitting);
            case 5: return bills().size();
            case 6: return deeds.size();
            case 7: return tape.size();
            default: return NONE;
        }
    }
}
