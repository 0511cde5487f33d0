import java.lang.reflect.InvocationTargetException;
import java.lang.reflect.Method;
import java.util.ArrayList;
import java.util.Arrays;
import java.util.Comparator;
import java.util.List;
import java.util.Random;

/** Random runs of all calls, each answer and each throw held against the plain model. */
public final class RandomRunsTest {
    private static final String[] ATOMS = {
        "one", "two", "three", "hat", "head", "height", "who", "0", "1", "2", "3", "5", "9", "10", "007", "999"};
    private static int wrong = 0;

    private RandomRunsTest() {
    }

    public static void main(String[] args) throws Exception {
        int runs = args.length > 0 ? Integer.parseInt(args[0]) : 160;
        int first = args.length > 1 ? Integer.parseInt(args[1]) : 1;
        Method[] calls = PinchedBill.class.getDeclaredMethods();
        List<Method> open = new ArrayList<>();
        for (Method m : calls) {
            if (java.lang.reflect.Modifier.isPublic(m.getModifiers())) {
                open.add(m);
            }
        }
        open.sort(Comparator.comparing(Method::getName));
        long made = 0;
        for (int seed = first; seed < first + runs; seed++) {
            made += new Run(seed, open).go();
        }
        System.out.println(made + " calls in " + runs + " runs, " + wrong + " answers not as the model's");
        System.exit(wrong == 0 ? 0 : 1);
    }

    private static final class Run {
        final int seed;
        final Random r;
        final List<Method> calls;
        final PinchedBill x = new PinchedBill();
        final Model m = new Model();
        final List<String> told = new ArrayList<>();
        int lines = 1;
        int made = 0;
        boolean broken = false;

        Run(int seed, List<Method> calls) {
            this.seed = seed;
            // Seeds that are near one another would begin alike.
            this.r = new Random(seed * 0x9E3779B97F4A7C15L);
            this.calls = calls;
        }

        int go() throws Exception {
            int houses = 1 + r.nextInt(4);
            for (int k = 0; k < houses && !broken; k++) {
                tell(text());
                fillSomeTray();
                int many = 20 + r.nextInt(60);
                for (int i = 0; i < many && !broken; i++) {
                    Method c = calls.get(r.nextInt(calls.size()));
                    if (!c.getName().equals("house")) {
                        make(c.getName(), arguments(c));
                    }
                    if (r.nextInt(12) == 0) {
                        fillSomeTray();
                    }
                }
                make("house", new Object[] {r.nextInt(30) - 3});
                make("fault", new Object[] {0});
                make("fault", new Object[] {1});
            }
            return made;
        }

        void fillSomeTray() throws Exception {
            int t = r.nextInt(4);
            int many = r.nextInt(4) == 0 ? r.nextInt(31) : 1 + r.nextInt(8);
            make("tray", new Object[] {t, 1 + r.nextInt(3), many});
            boolean seen = r.nextBoolean();
            if (seen && r.nextBoolean()) {
                make("copy", new Object[] {t, bill()});
            }
            for (int i = 0; i < many; i++) {
                if (seen && r.nextInt(3) == 0) {
                    continue;
                }
                long v = r.nextInt(3) == 0 ? bill() : seen || r.nextInt(3) == 0 ? -1
                        : 1000 * (1 + r.nextInt(2)) + r.nextInt(9);
                make("write", new Object[] {t, i, v});
            }
        }

        int bill() {
            int b = r.nextInt(1000);
            if (r.nextInt(30) == 0) {
                return b * 3 - 500;
            }
            return lines == 1 ? b / 100 * 100 : lines == 2 ? b / 10 * 10 : b;
        }

        int count(int most) {
            int pick = r.nextInt(24);
            return pick == 0 ? -1 : pick == 1 ? most + 1 : pick == 2 ? most : pick == 3 ? 0
                    : pick < 20 ? r.nextInt(Math.min(most, 40) + 1) : r.nextInt(most + 1);
        }

        Object[] arguments(Method c) {
            Object[] a = new Object[c.getParameterCount()];
            String n = c.getName();
            for (int i = 0; i < a.length; i++) {
                a[i] = r.nextInt(8) - 1;
            }
            if (List.of("judge", "perform", "seen", "seenAt", "ask", "tray", "write", "copy").contains(n)) {
                a[0] = r.nextInt(20) == 0 ? 4 : r.nextInt(4);
            }
            if (List.of("image", "restore").contains(n)) {
                a[0] = r.nextInt(20) == 0 ? 3 : r.nextInt(3);
            }
            int p = r.nextInt(20) == 0 ? -1 : r.nextInt(m.count(2) + (r.nextInt(9) == 0 ? 2 : 1));
            if (List.of("send", "call", "person").contains(n)) {
                a[0] = p;
            }
            if (List.of("spoken", "share").contains(n)) {
                a[1] = p;
            }
            switch (n) {
                case "feed":
                    for (int i = 0; i < 5; i++) {
                        a[i] = r.nextInt();
                    }
                    break;
                case "goes":
                    a[1] = count(9999);
                    break;
                case "share":
                    a[2] = count(9999);
                    break;
                case "bothIn":
                    a[1] = bill();
                    a[2] = count(9999);
                    a[3] = r.nextInt(9) == 0 ? 2 : r.nextInt(2);
                    break;
                case "both":
                    a[1] = bill();
                    break;
                case "before", "beforeAt":
                    a[1] = count(99);
                    break;
                case "steps":
                    a[0] = count(999);
                    break;
                case "undo":
                    a[0] = count(10);
                    break;
                case "law":
                    a[0] = count(1000);
                    break;
                case "seats":
                    a[1] = r.nextInt(4) == 0 ? -1 : r.nextBoolean() ? bill() : m.goes(m.bill(), r.nextInt(9));
                    a[2] = r.nextInt(9) == 0 ? 2 : r.nextInt(2);
                    break;
                case "ring":
                    a[1] = r.nextInt(22) - 1;
                    if (r.nextInt(2) == 0) {
                        a[1] = r.nextInt(2);
                    }
                    break;
                case "winter":
                    a[0] = r.nextInt();
                    a[1] = count(30);
                    break;
                case "tray":
                    a[2] = count(30);
                    break;
                case "write":
                    a[2] = r.nextBoolean() ? r.nextLong() : (long) bill();
                    break;
                case "copy":
                    a[1] = bill();
                    break;
                case "count":
                    a[0] = r.nextInt(10) - 1;
                    break;
                case "chance":
                    a[1] = r.nextInt(9) == 0 ? 2 : r.nextInt(2);
                    break;
                default:
                    break;
            }
            if (a.length > 0 && List.of("pinched", "spoken", "draft", "ends", "takes", "goes", "ring", "into", "nearest",
                    "seats", "hire", "weighty", "share", "sorest", "before", "beforeAt", "both", "bothIn", "chance",
                    "away").contains(n)) {
                a[0] = r.nextInt(3) == 0 ? m.bill() : bill();
            }
            if (a.length > 0 && r.nextInt(40) == 0) {
                int i = r.nextInt(a.length);
                int extreme = r.nextBoolean() ? Integer.MAX_VALUE - r.nextInt(3) : Integer.MIN_VALUE + r.nextInt(3);
                a[i] = c.getParameterTypes()[i] == long.class ? (Object) (long) extreme : (Object) extreme;
            }
            return a;
        }

        void make(String name, Object[] a) throws Exception {
            made++;
            String got = answer(x, name, a);
            String want = answer(m, name, a);
            told.add(name + Arrays.toString(a) + " = " + got);
            if (!got.equals(want) && !broken) {
                broken = true;
                wrong++;
                System.out.println("seed " + seed + ": " + String.join("\n  ", told) + " -- the model: " + want);
            }
        }

        static String answer(Object o, String name, Object[] a) throws Exception {
            for (Method c : o.getClass().getDeclaredMethods()) {
                if (c.getName().equals(name) && c.getParameterCount() == a.length
                        && java.lang.reflect.Modifier.isPublic(c.getModifiers())) {
                    try {
                        return String.valueOf(c.invoke(o, a));
                    } catch (InvocationTargetException e) {
                        return e.getCause().getClass().getSimpleName();
                    }
                }
            }
            throw new IllegalStateException(name);
        }

        void tell(String text) throws Exception {
            told.add("TEXT " + text);
            byte[] full = Arrays.copyOf(Check.bytes(text), (text.length() + 19) / 20 * 20);
            Arrays.fill(full, text.length(), full.length, (byte) 32);
            for (int i = 0; i < full.length; i += 20) {
                make("feed", new Object[] {Check.four(full, i), Check.four(full, i + 4), Check.four(full, i + 8),
                    Check.four(full, i + 12), Check.four(full, i + 16)});
            }
            make("house", new Object[] {Math.min(text.length(), 900)});
            make("fault", new Object[] {0});
            make("fault", new Object[] {1});
            lines = Math.max(1, m.count(1));
        }

        String text() {
            StringBuilder t = new StringBuilder();
            int n = 1 + r.nextInt(3);
            t.append("house lines ").append(n).append(';');
            int people = r.nextInt(8) == 0 ? 8 : 1 + r.nextInt(6);
            for (int p = 0; p < people; p++) {
                person(t, n);
            }
            if (r.nextInt(4) > 0) {
                t.append("pinches:").append(truth(3)).append(";");
            }
            if (r.nextInt(3) > 0) {
                String plain = r.nextBoolean() ? "who*" + (r.nextInt(5) + 1) + "-" + r.nextInt(9) : "hat-" + r.nextInt(10);
                t.append("changes : ").append(r.nextBoolean() ? plain : sum(3, true)).append(";\n");
            }
            if (r.nextInt(2) > 0) {
                t.append("bill");
                figures(t, n);
                t.append(';');
            }
            if (r.nextInt(6) == 0) {
                spoil(t);
            }
            if (t.length() > 880) {
                t.setLength(880);
            }
            return t.toString();
        }

        void person(StringBuilder t, int n) {
            t.append("person");
            figures(t, n);
            while (r.nextInt(3) == 0) {
                t.append(r.nextBoolean() ? " out" : " temper " + r.nextInt(11));
            }
            t.append(";");
        }

        void figures(StringBuilder t, int n) {
            for (int i = 0; i < n; i++) {
                t.append(' ').append(r.nextInt(10));
            }
        }

        String truth(int deep) {
            StringBuilder t = new StringBuilder(unit(deep));
            while (r.nextInt(3) == 0) {
                t.append(r.nextBoolean() ? " and " : " or ").append(unit(deep));
            }
            return t.toString();
        }

        String unit(int deep) {
            int pick = deep > 0 ? r.nextInt(5) : 4;
            if (pick == 0) {
                return "not " + unit(deep - 1);
            }
            if (pick == 1) {
                return "[" + truth(deep - 1) + "]";
            }
            if (r.nextInt(4) > 0) {
                return plainUnit();
            }
            return sum(deep, false) + "=<>".charAt(r.nextInt(3)) + sum(deep, false);
        }

        /** Such as make bills end here, go round there, and need this one or that one. */
        String plainUnit() {
            String[] own = {"one", "two", "three"};
            String[] marks = {"hat", "head", "height"};
            int i = r.nextInt(3);
            int pick = r.nextInt(4);
            char sign = "=<>".charAt(r.nextInt(3));
            if (pick == 0) {
                return "who" + sign + r.nextInt(6) + " and " + own[0] + "=<>".charAt(r.nextInt(3)) + r.nextInt(10);
            }
            if (pick == 1) {
                return "not " + own[i] + "=" + marks[i];
            }
            return own[pick == 2 ? 0 : i] + sign + (r.nextBoolean() ? marks[i] : "" + r.nextInt(10));
        }

        String sum(int deep, boolean line) {
            StringBuilder t = new StringBuilder(term(deep, line));
            while (r.nextInt(2) == 0) {
                t.append(r.nextInt(3) == 0 ? "+" : " - ").append(term(deep, line));
            }
            return t.toString();
        }

        String term(int deep, boolean line) {
            StringBuilder t = new StringBuilder(atom(deep, line));
            while (r.nextInt(4) == 0) {
                t.append("*").append(atom(deep, line));
            }
            return t.toString();
        }

        String atom(int deep, boolean line) {
            if (deep > 0 && r.nextInt(5) == 0) {
                return "(" + sum(deep - 1, line) + ")";
            }
            if (line && r.nextInt(6) == 0) {
                return "line";
            }
            return ATOMS[r.nextInt(r.nextInt(3) == 0 ? ATOMS.length : 7)];
        }

        void spoil(StringBuilder t) {
            String[] bits = {"", ";", ":", "1", "10", "1000", "person", "line", "not ", "[", "(", ")", "]", "house",
                "temper", "A", "\t", "out", "bill", "=", "+", "11 ", "\n", "lines", "not not not not not [[((1"};
            int at = r.nextInt(t.length());
            int to = Math.min(t.length(), at + r.nextInt(4));
            t.replace(at, to, bits[r.nextInt(bits.length)]);
            if (r.nextInt(3) == 0) {
                t.setLength(r.nextInt(t.length() + 1));
            }
        }
    }
}
