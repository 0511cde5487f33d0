import java.io.File;
import java.lang.reflect.Method;
import java.lang.reflect.Modifier;
import java.net.URL;
import java.net.URLClassLoader;
import java.nio.file.Files;
import java.nio.file.Path;
import java.util.ArrayList;
import java.util.List;
import java.util.regex.Matcher;
import java.util.regex.Pattern;
import java.util.spi.ToolProvider;

/** The examples of README.md are compiled and run: each answers what it says. */
public final class ReadmeTest {
    private static final Pattern SAID = Pattern.compile("(.*\\));\\s*// (-?\\d+|throws \\w+)(?=$|[^\\w]).*");
    private static final List<String> CALLS = new ArrayList<>();
    private static final List<String> DUE = new ArrayList<>();

    private ReadmeTest() {
    }

    public static void main(String[] args) throws Exception {
        String page = Files.readString(Path.of("README.md"));
        List<String> got = answers(program(page));
        Check.due("examples", got.size(), DUE.size());
        for (int i = 0; i < Math.min(got.size(), DUE.size()); i++) {
            String said = CALLS.get(i) + " answers " + got.get(i) + ", README.md says " + DUE.get(i);
            Check.due(said, got.get(i).equals(DUE.get(i)) ? 1 : 0, 1);
        }
        eachCallStandsThere(page);
        theHouseStandsThere(page);
        Check.end();
    }

    /** Helpers, which begin with static, become methods; all else stands in one method, in the page's order. */
    private static String program(String page) {
        StringBuilder helpers = new StringBuilder();
        StringBuilder body = new StringBuilder();
        Matcher block = Pattern.compile("(?s)```java\n(.*?)```").matcher(page);
        while (block.find()) {
            if (block.group(1).startsWith("static")) {
                helpers.append(block.group(1));
                continue;
            }
            for (String line : block.group(1).split("\n")) {
                body.append(statement(line)).append('\n');
            }
        }
        return "public final class ReadmeRun {\n" + helpers + "public static void run(java.util.List<String> got) {\n"
                + body + "}\n}\n";
    }

    private static String statement(String line) {
        Matcher said = SAID.matcher(line);
        if (!said.matches()) {
            return line;
        }
        CALLS.add(said.group(1));
        DUE.add(said.group(2));
        return "try { got.add(String.valueOf(" + said.group(1) + ")); } catch (RuntimeException e) {"
                + " got.add(\"throws \" + e.getClass().getSimpleName()); }";
    }

    private static List<String> answers(String program) throws Exception {
        Path folder = Files.createTempDirectory("readme");
        Path file = folder.resolve("ReadmeRun.java");
        Files.writeString(file, program);
        String classes = System.getProperty("java.class.path");
        int failed = ToolProvider.findFirst("javac").orElseThrow().run(System.out, System.out, "-cp", classes, "-d",
                folder.toString(), file.toString());
        Check.due("README.md's examples compile", failed, 0);
        List<String> got = new ArrayList<>();
        if (failed == 0) {
            try (URLClassLoader loader = new URLClassLoader(new URL[] {folder.toUri().toURL()})) {
                loader.loadClass("ReadmeRun").getMethod("run", List.class).invoke(null, got);
            }
        }
        for (File made : folder.toFile().listFiles()) {
            made.delete();
        }
        folder.toFile().delete();
        return got;
    }

    private static void eachCallStandsThere(String page) {
        for (Method c : PinchedBill.class.getDeclaredMethods()) {
            if (Modifier.isPublic(c.getModifiers())) {
                Check.due("README.md has an example of " + c.getName(), page.contains("x." + c.getName() + "(") ? 1 : 0, 1);
            }
        }
    }

    private static void theHouseStandsThere(String page) {
        Matcher text = Pattern.compile("(?m)^    house lines(.*\n    )*.*;$").matcher(page);
        Check.due("README.md tells a house", text.find() ? 1 : 0, 1);
        PinchedBill x = Check.housed(text.group());
        Check.due("its lines", x.count(0), text.group().split("\n").length);
        Check.due("its bill", x.bill(), 150);
    }
}
