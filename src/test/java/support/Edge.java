import java.io.IOException;
import java.nio.file.Files;
import java.nio.file.Path;
import java.util.Set;
import java.util.TreeSet;

/** Edges that a sentence of the document names: the words quoted must stand there, so that no test outlives them. */
final class Edge {
    static final int TERMS = 0;

    private static final Path DOCUMENT = Path.of("../shared/DOC.md");
    private static final Set<Integer> quoted = new TreeSet<>();
    private static String now = "";

    private Edge() {
    }

    /** What follows is due by these words of a promise. */
    static void of(int promise, String words) {
        now = (promise == TERMS ? "Terms" : "promise " + promise) + ", \"" + words + "\": ";
        quoted.add(promise);
        Check.due(now + "the words stand there", section(promise).contains(words) ? 1 : 0, 1);
    }

    private static String section(int promise) {
        String head = promise == TERMS ? "## Terms" : "## Promise " + promise + ":";
        try {
            String text = Files.readString(DOCUMENT);
            int from = text.indexOf(head);
            int to = text.indexOf("\n## ", from + 1);
            return from < 0 ? "" : text.substring(from, to < 0 ? text.length() : to);
        } catch (IOException e) {
            return "";
        }
    }

    static void due(String call, long got, long want) {
        Check.due(now + call, got, want);
    }

    static void dueThrow(String call, Class<? extends RuntimeException> want, Check.Call made) {
        Check.dueThrow(now + call, want, made);
    }

    /** Each promise of these must have been quoted. */
    static void end(int from, int to) {
        for (int promise = from; promise <= to; promise++) {
            Check.due("an edge of promise " + promise + " is tested", quoted.contains(promise) ? 1 : 0, 1);
        }
        Check.end();
    }
}
