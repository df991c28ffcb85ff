import java.io.IOException;
import java.lang.reflect.Method;
import java.lang.reflect.Modifier;
import java.nio.file.Files;
import java.nio.file.Path;
import java.util.List;
import java.util.regex.Matcher;
import java.util.regex.Pattern;
import java.util.stream.Stream;

/** What README.md shows: its example answers as it says there, every call and every test is named. */
public final class ReadmeTest {
    private static final Pattern ROW = Pattern.compile("^x\\.(\\w+)\\(([^)]*)\\); *// (-?\\d+): .*$");

    public static void main(String[] args) throws IOException, ReflectiveOperationException {
        String page = Files.readString(Path.of("README.md"));
        example(page);
        everyCall(page);
        everyTest(page);
        Check.finish();
    }

    private static String blockOf(String page, String language) {
        int from = page.indexOf("```" + language + "\n");
        int to = from < 0 ? -1 : page.indexOf("\n```", from);
        return to < 0 ? "" : page.substring(from, to);
    }

    private static void example(String page) throws ReflectiveOperationException {
        String block = blockOf(page, "java");
        Matcher post = Pattern.compile("String post = \"([^\"]*)\";").matcher(block);
        Check.due("the example writes a post", post.find() ? 1 : 0, 1);
        LetterEnds x = new LetterEnds();
        Check.write(x, 0, post.group(1));
        int rows = 0;
        for (String line : block.lines().toList()) {
            Matcher row = ROW.matcher(line);
            if (row.matches()) {
                Check.due("README's " + line, answer(x, row.group(1), row.group(2)), Long.parseLong(row.group(3)));
                rows++;
            }
            Check.due("an answer is told so that it is looked at in '" + line + "'",
                line.contains("//") == row.matches() ? 1 : 0, 1);
        }
        Check.due("rows with an answer are seen", rows > 10 ? 1 : 0, 1);
    }

    private static long answer(LetterEnds x, String name, String given) throws ReflectiveOperationException {
        Object[] values = Stream.of(given.split(",")).map(String::strip).filter(s -> !s.isEmpty())
            .map(Integer::valueOf).toArray();
        for (Method m : LetterEnds.class.getDeclaredMethods()) {
            if (Modifier.isPublic(m.getModifiers()) && m.getName().equals(name)) {
                return ((Number) m.invoke(x, values)).longValue();
            }
        }
        throw new NoSuchMethodException(name);
    }

    private static void everyCall(String page) {
        for (Method m : LetterEnds.class.getDeclaredMethods()) {
            if (Modifier.isPublic(m.getModifiers())) {
                Check.due("README names `" + m.getName() + "`", page.contains("`" + m.getName() + "`") ? 1 : 0, 1);
            }
        }
    }

    private static void everyTest(String page) throws IOException {
        try (Stream<Path> files = Files.list(Path.of("src/test/java"))) {
            List<String> names = files.map(p -> p.getFileName().toString().replace(".java", ""))
                .filter(n -> n.endsWith("Test")).sorted().toList();
            for (String name : names) {
                boolean told = Pattern.compile("(?m)^\\| [^|]*\\b" + name + "\\b[^|]*\\|").matcher(page).find();
                Check.due("README's tables tell " + name, told ? 1 : 0, 1);
            }
            for (Matcher m = Pattern.compile("\\b[A-Z]\\w+Test\\b").matcher(page); m.find(); ) {
                Check.due("there is " + m.group(), names.contains(m.group()) ? 1 : 0, 1);
            }
        }
    }
}
