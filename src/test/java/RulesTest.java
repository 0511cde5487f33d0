import java.io.PrintWriter;
import java.io.StringWriter;
import java.lang.reflect.Field;
import java.lang.reflect.Method;
import java.lang.reflect.Modifier;
import java.nio.file.Files;
import java.nio.file.Path;
import java.util.ArrayList;
import java.util.Collections;
import java.util.List;
import java.util.Map;
import java.util.Optional;
import java.util.Set;
import java.util.TreeMap;
import java.util.TreeSet;
import java.util.regex.Matcher;
import java.util.regex.Pattern;
import java.util.spi.ToolProvider;

/** The face as the document prints it, and such rules of LANGUAGE.md as can be seen from outside. */
public final class RulesTest {
    private static final Path SOURCE = Path.of("src/main/java/PinchedBill.java");
    private static final Path DOCUMENT = Path.of("../shared/DOC.md");

    private RulesTest() {
    }

    public static void main(String[] args) throws Exception {
        face();
        names();
        fields();
        words();
        lengths();
        depth();
        Check.end();
    }

    private static void face() throws Exception {
        List<String> due = new ArrayList<>();
        Matcher m = Pattern.compile("(?m)^    public (.*);$").matcher(Files.readString(DOCUMENT));
        while (m.find()) {
            due.add(m.group(1).replaceAll("(int|long) \\w+([,)])", "$1$2"));
        }
        due.remove("static final int NONE = -1");
        due.remove("PinchedBill()");
        List<String> got = new ArrayList<>();
        for (Method c : PinchedBill.class.getDeclaredMethods()) {
            if (Modifier.isPublic(c.getModifiers())) {
                got.add(signature(c));
            } else {
                Check.due("a method that is neither public nor private: " + c, Modifier.isPrivate(c.getModifiers()) ? 1 : 0, 1);
            }
        }
        Collections.sort(due);
        Collections.sort(got);
        Check.due("methods of the face", got.size(), 47);
        for (int i = 0; i < Math.max(due.size(), got.size()); i++) {
            String d = i < due.size() ? due.get(i) : "nothing";
            String g = i < got.size() ? got.get(i) : "nothing";
            Check.due("the face has " + g + ", the document " + d, g.equals(d) ? 1 : 0, 1);
        }
        Check.due("public and final", PinchedBill.class.getModifiers(), Modifier.PUBLIC | Modifier.FINAL);
        Check.due("constructors", PinchedBill.class.getDeclaredConstructors().length, 1);
    }

    private static String signature(Method c) {
        StringBuilder s = new StringBuilder(c.getReturnType().getSimpleName()).append(' ').append(c.getName()).append('(');
        for (int i = 0; i < c.getParameterCount(); i++) {
            s.append(i == 0 ? "" : ", ").append(c.getParameterTypes()[i].getSimpleName());
        }
        s.append(')');
        for (int i = 0; i < c.getExceptionTypes().length; i++) {
            s.append(i == 0 ? " throws " : ", ").append(c.getExceptionTypes()[i].getSimpleName());
        }
        return s.toString();
    }

    private static void names() {
        Set<String> open = new TreeSet<>();
        for (Method c : PinchedBill.class.getDeclaredMethods()) {
            if (Modifier.isPublic(c.getModifiers())) {
                open.add(c.getName());
            }
        }
        List<Class<?>> classes = new ArrayList<>(List.of(PinchedBill.class.getDeclaredClasses()));
        Check.due("at most twelve classes", classes.size() + 1 <= 12 ? 1 : 0, 1);
        classes.add(PinchedBill.class);
        for (Class<?> k : classes) {
            Check.due("static or the outermost: " + k, k == PinchedBill.class || Modifier.isStatic(k.getModifiers()) ? 1 : 0, 1);
            for (Method c : k.getDeclaredMethods()) {
                boolean face = k == PinchedBill.class && Modifier.isPublic(c.getModifiers());
                Check.due("rule 1, a name of the face: " + c, !face && open.contains(c.getName()) ? 1 : 0, 0);
                Check.due("rule 11, parameters: " + c, c.getParameterCount() <= 7 ? 1 : 0, 1);
            }
        }
    }

    private static void fields() {
        List<Class<?>> classes = new ArrayList<>(List.of(PinchedBill.class.getDeclaredClasses()));
        classes.add(PinchedBill.class);
        for (Class<?> k : classes) {
            int own = 0;
            for (Field f : k.getDeclaredFields()) {
                if (Modifier.isStatic(f.getModifiers())) {
                    Check.due("rule 5, static and final: " + f, Modifier.isFinal(f.getModifiers()) ? 1 : 0, 1);
                } else {
                    own++;
                }
            }
            Check.due("rule 11, fields of " + k + ": " + own, own <= 20 ? 1 : 0, 1);
        }
    }

    private static void words() throws Exception {
        String[] never = {"->", "::", "\\btry\\b", "\\bcatch\\b", "\\bfinally\\b", "\\bsynchronized\\b", "\\bassert\\b",
            "Exact\\b", "\\bSystem\\.(?!arraycopy)", "\\bdouble\\b", "\\bfloat\\b", "\\bpackage\\b", "\" *\\+", "\\+ *\"",
            "\\bfor *\\( *;", "\\bwhile *\\(true\\)", "\\bnew \\w+\\[\\]\\[", "\\bMAX_VALUE\\b", "\\bMIN_VALUE\\b",
            "import (?!java\\.util\\.(Arrays|NoSuchElementException);)"};
        String source = Files.readString(SOURCE);
        for (String n : never) {
            Matcher m = Pattern.compile(n).matcher(source);
            Check.due("the source has " + n, m.find() ? 1 : 0, 0);
        }
        for (int i = 0; i < source.length(); i++) {
            if (source.charAt(i) > 126) {
                Check.due("a sign above 126 at " + i, 1, 0);
            }
        }
    }

    private static void lengths() throws Exception {
        int from = -1;
        String head = "";
        List<String> lines = Files.readAllLines(SOURCE);
        for (int i = 0; i < lines.size(); i++) {
            String line = lines.get(i);
            if (line.matches(" {4,8}(?!/).*\\) *(throws .*)?\\{") && from < 0) {
                from = i;
                head = line.strip();
            } else if (from >= 0 && line.matches(" {4,8}\\}")) {
                Check.due("rule 11, lines of " + head, i - from <= 60 ? 1 : 0, 1);
                from = -1;
            }
        }
    }

    /** Calls that are no recursion, from the face down, by what the compiled classes call. */
    private static void depth() throws Exception {
        Optional<ToolProvider> javap = ToolProvider.findFirst("javap");
        if (javap.isEmpty()) {
            System.out.println("no javap here: the calls' depth is not looked at");
            return;
        }
        List<String> names = new ArrayList<>(List.of("PinchedBill"));
        for (Class<?> k : PinchedBill.class.getDeclaredClasses()) {
            names.add(k.getName());
        }
        String place = Path.of(PinchedBill.class.getProtectionDomain().getCodeSource().getLocation().toURI()).toString();
        Map<String, Set<String>> calls = new TreeMap<>();
        for (String name : names) {
            StringWriter out = new StringWriter();
            javap.get().run(new PrintWriter(out), new PrintWriter(System.err), "-c", "-p", "-cp", place, name);
            addCalls(name, out.toString(), calls);
        }
        Check.due("methods are found", calls.size() > 100 ? 1 : 0, 1);
        for (String from : calls.keySet()) {
            int deep = deepest(from, calls, new TreeSet<>());
            Check.due("rule 11, calls below " + from + ": " + deep, deep <= 8 ? 1 : 0, 1);
        }
    }

    private static void addCalls(String name, String listing, Map<String, Set<String>> calls) {
        String method = "";
        for (String line : listing.split("\n")) {
            Matcher head = Pattern.compile("^  \\S.*?([\\w$]+)\\(.*\\).*;$").matcher(line);
            if (head.find()) {
                method = name + "." + head.group(1);
                calls.computeIfAbsent(method, k -> new TreeSet<>());
            }
            Matcher call = Pattern.compile("invoke\\w+ .*// (?:Interface)?Method ([^:]+):").matcher(line);
            if (call.find()) {
                String to = call.group(1);
                calls.get(method).add(to.contains(".") ? to : name + "." + to);
            }
        }
    }

    /** A method that is called again on the way down is recursion, which rule 8 bounds. */
    private static int deepest(String from, Map<String, Set<String>> calls, Set<String> open) {
        if (!calls.containsKey(from) || from.contains("Reader.read") || !open.add(from)) {
            return 0;
        }
        int most = 0;
        for (String to : calls.get(from)) {
            most = Math.max(most, 1 + deepest(to, calls, open));
        }
        open.remove(from);
        return most;
    }
}
