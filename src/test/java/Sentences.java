import java.io.IOException;
import java.nio.file.Files;
import java.nio.file.Path;
import java.util.Set;
import java.util.TreeSet;

/** Runs a test for a sentence of ../shared/DOC.md, and looks whether the sentence stands there, where it is said to. */
final class Sentences {
    private static final String[] PARTS = {"==== II. ", "==== III. ", "==== IV. "};
    private static final Set<String> NAMED = new TreeSet<>();
    private static String document = "";
    private static int held = 0;

    private Sentences() { }

    static void open() throws IOException {
        document = Files.readString(Path.of("../shared/DOC.md")).replace("```text", " ").replace("```", " ")
            .replaceAll("\\s+", " ");
    }

    /** For a sentence that stands under a promise's own heading. */
    static void of(int promise, String words, Runnable test) {
        holds("Promise " + promise, "## Promise " + promise + ": ", words, test);
    }

    /** For a sentence of the Terms (part "I", "II", "III" or "IV"), on which the promises rest that are named. */
    static void of(String promises, String part, String words, Runnable test) {
        holds(promises + " (Terms, " + part + ")", part.equals("I") ? "## Terms " : "==== " + part + ". ", words, test);
    }

    static void holds(String promises, String heading, String words, Runnable test) {
        Check.about(promises + ": \"" + words + "\": ");
        Check.due("times that it stands there", section(heading).contains(words), true);
        Check.due("a second test of the same name", NAMED.add(promises + words), true);
        int before = Check.wrong();
        try {
            test.run();
        } catch (RuntimeException e) {
            Check.due("throws " + e + ", which", 1, 0);
        }
        if (Check.wrong() == before) {
            held++;
        }
        Check.about("");
    }

    static void end() {
        System.out.println(held + " of " + NAMED.size() + " sentences hold");
        Check.end();
    }

    private static String section(String heading) {
        int from = document.indexOf(heading);
        if (from < 0) {
            return "";
        }
        int to = document.length();
        int next = document.indexOf("## ", from + 3);
        if (next >= 0) {
            to = next;
        }
        for (String part : PARTS) {
            int at = document.indexOf(part, from + 1);
            if (at >= 0 && at < to) {
                to = at;
            }
        }
        return document.substring(from, to);
    }
}
