import java.io.IOException;
import java.nio.file.Files;
import java.nio.file.Path;
import java.util.List;
import java.util.regex.Matcher;
import java.util.regex.Pattern;

/** What can be seen of the language's rules by looking at the source; .ci/run runs it in the project's folder. */
public final class LanguageTest {
    private static final List<String> RULED_OUT = List.of("throw", "throws", "try", "catch", "finally", "synchronized",
        "assert", "package", "import", "protected", "volatile", "native", "Object", "Exact", "System\\.(?!arraycopy)",
        "Math\\.(?!abs|min|max)", "Integer\\.(?!bitCount)", "->", "::", "double", "float", "\\.equals", "\\.hashCode",
        "\\.toString", "static\\s*\\{");
    private static final int LONGEST_METHOD = 60;

    public static void main(String[] args) throws IOException {
        String source = Files.readString(Path.of("src/main/java/LetterEnds.java"));
        String bare = source.replaceAll("(?s)/\\*.*?\\*/", "").replaceAll("//[^\\n]*", "");
        for (String word : RULED_OUT) {
            String edge = word.matches("\\w+") ? "\\b" : "";
            Check.due("how often there is " + word, Pattern.compile(edge + word + edge).matcher(bare).results().count(), 0);
        }
        Check.due("signs beyond 127", source.chars().filter(c -> c > 127).count(), 0);
        methodsAreShort(bare);
        objectsAreMadeOnce(bare);
        Check.finish();
    }

    private static void methodsAreShort(String bare) {
        Matcher m = Pattern.compile("(?m)^( {4}| {8})(?=[^ \\n][^=;\\n]*\\) \\{$)([^\\n]*)\\n(?s:(.*?))^\\1\\}$").matcher(bare);
        int methods = 0;
        while (m.find()) {
            methods++;
            long lines = m.group(3).lines().count() + 2;
            Check.due(m.group(2) + " is short", lines <= LONGEST_METHOD ? 1 : 0, 1);
        }
        Check.due("methods are seen", methods > 42 ? 1 : 0, 1);
    }

    /** No call makes an object, so no run fills the room: new stands in field initialisers and constructors alone. */
    private static void objectsAreMadeOnce(String bare) {
        String constructors = "(rows\\[r\\]|texts\\[t\\]|kept\\[k\\]|places) = new ";
        for (String line : bare.lines().toList()) {
            if (line.contains("new ")) {
                boolean field = line.matches(" +(private )?final \\w+(\\[\\])? \\w+ = new .*");
                boolean constructor = Pattern.compile(constructors).matcher(line).find();
                Check.due("new in '" + line.strip() + "'", field || constructor ? 1 : 0, 1);
            }
        }
    }
}
