import java.io.IOException;
import java.io.UncheckedIOException;
import java.nio.file.Files;
import java.nio.file.Path;
import java.util.HashSet;
import java.util.Set;

/**
 * The document's sentences, each with a test of its own. A section in which a sentence is left without a test, and a
 * test of a sentence that the document does not say, are failures, so that the tests and the document stay together.
 */
final class Sentences {
    private static final Path DOC = Path.of("../shared/DOC.md");
    private static final String WHOLE = read();

    private static final Set<String> opened = new HashSet<>();
    private static String section = "";
    private static String text = "";
    private static boolean[] said = {};

    private Sentences() {
    }

    private static String read() {
        try {
            return Files.readString(DOC);
        } catch (IOException e) {
            throw new UncheckedIOException(e);
        }
    }

    /** The sentences that follow stand under this heading; what the call looks like is seen to by FaceTest. */
    static void under(String heading) {
        String mark = "## " + heading + "\n";
        int from = WHOLE.indexOf(mark);
        int to = from < 0 ? -1 : WHOLE.indexOf("\n## ", from + mark.length());
        open(heading, from < 0 ? "" : WHOLE.substring(from + mark.length(), to < 0 ? WHOLE.length() : to)
            .replaceFirst("^\\s*`[^`]*`:", ""));
    }

    /** The sentences that follow stand between these words of the document, the first ones with them. */
    static void between(String first, String behind) {
        int from = WHOLE.indexOf(first);
        int to = from < 0 ? -1 : WHOLE.indexOf(behind, from);
        open(first + " ..", to < 0 ? "" : WHOLE.substring(from, to));
    }

    private static void open(String name, String body) {
        close();
        section = name;
        text = plain(body);
        said = new boolean[text.length()];
        Check.due("how often there is a section '" + name + "'", text.isEmpty() || !opened.add(name) ? 0 : 1, 1);
    }

    private static String plain(String body) {
        return body.replaceAll("```(text)?|====+|----", " ").replaceAll("\\s+", " ").strip();
    }

    /** A sentence, or the part of one that names a case, and the test that fails if it is broken. */
    static void holds(String sentence, Runnable test) {
        Check.due("section '" + section + "' says '" + sentence + "'", mark(sentence) ? 1 : 0, 1);
        int wrong = Check.wrong();
        int compared = Check.compared();
        test.run();
        if (Check.wrong() > wrong) {
            System.out.println("  so in section '" + section + "' this does not hold: " + sentence);
        }
        Check.due("whether '" + sentence + "' has a test", Check.compared() > compared ? 1 : 0, 1);
    }

    /** Words said more than once in a section are told by more than one test, in their order. */
    private static boolean mark(String sentence) {
        int last = -1;
        for (int at = text.indexOf(sentence); at >= 0; at = text.indexOf(sentence, at + 1)) {
            last = at;
            if (!allSaid(at, at + sentence.length())) {
                break;
            }
        }
        for (int i = 0; last >= 0 && i < sentence.length(); i++) {
            said[last + i] = true;
        }
        return last >= 0;
    }

    private static boolean allSaid(int from, int to) {
        for (int i = from; i < to; i++) {
            if (!said[i]) {
                return false;
            }
        }
        return true;
    }

    private static void close() {
        StringBuilder left = new StringBuilder();
        for (int i = 0; i < text.length(); i++) {
            left.append(said[i] ? '|' : text.charAt(i));
        }
        for (String part : left.toString().split("\\|+")) {
            if (part.matches(".*[A-Za-z0-9].*")) {
                Check.due("tests of '" + part.strip() + "' in section '" + section + "'", 0, 1);
            }
        }
        section = "";
        text = "";
        said = new boolean[0];
    }

    static void finish() {
        close();
        Check.finish();
    }
}
