import java.io.IOException;
import java.nio.file.Files;
import java.nio.file.Path;
import java.util.HashSet;
import java.util.LinkedHashMap;
import java.util.Map;
import java.util.Set;

/**
 * The document, which the tests of boundaries quote: each names the section and the words that it is for, so that
 * the sentence can be found from the test, and the test from the sentence. Words that do not stand in the document
 * fail, as do words behind which nothing is checked.
 */
final class Doc {
    private static final Map<String, String> SECTIONS = new LinkedHashMap<>();
    private static final Set<String> QUOTED = new HashSet<>();
    private static String open;
    private static int checksBefore;

    private Doc() {
    }

    static void read(String path) {
        try {
            String name = "";
            for (String line : Files.readAllLines(Path.of(path))) {
                if (line.startsWith("## ") || line.startsWith("== ")) {
                    name = line.substring(3).replaceFirst("^(Promise \\d+):.*", "$1").trim();
                } else {
                    SECTIONS.merge(name, line, (before, next) -> before + " " + next);
                }
            }
            SECTIONS.replaceAll((section, text) -> text.replaceAll("\\s+", " "));
        } catch (IOException e) {
            Check.same("the document is at " + path, "read", () -> "not read");
        }
    }

    /** The text of a section, in one line. */
    static String text(String section) {
        return SECTIONS.getOrDefault(section, "");
    }

    /** From here on, up to the next call, all that is checked is checked for these words of the document. */
    static void says(String section, String words) {
        done();
        String told = section + ", \"" + words + "\"";
        Check.same(told + " stands in the document", true,
                () -> text(section).contains(words));
        Check.same(told + " is quoted for the first time", true, () -> QUOTED.add(told));
        open = told;
        checksBefore = Check.count();
        Check.about(told);
    }

    /** Runs tests, each for words of its own; one that throws fails, and the others go on. */
    static void each(Runnable... tests) {
        for (Runnable test : tests) {
            try {
                test.run();
            } catch (RuntimeException e) {
                Check.same("a call in the test", "no exception", () -> e + " at " + e.getStackTrace()[0]);
            }
            done();
        }
    }

    /** Ends what is checked for the words quoted last. */
    private static void done() {
        String told = open;
        open = null;
        Check.about("");
        if (told != null) {
            boolean hasChecks = Check.count() > checksBefore;
            Check.same(told + " is checked", true, () -> hasChecks);
        }
    }
}
