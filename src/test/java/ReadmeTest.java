import java.io.IOException;
import java.nio.file.Files;
import java.nio.file.Path;
import java.util.List;
import java.util.regex.Matcher;
import java.util.regex.Pattern;
import java.util.stream.Stream;

/** What README.md says of the class: its example answers as it stands there, and it names every test. */
public final class ReadmeTest {
    private static final Pattern TEXT = Pattern.compile("\"(.+)\"\\.toCharArray\\(\\)");
    private static final Pattern CALL = Pattern.compile("kin\\.(\\w+\\([-0-9, ]*\\)); +// (-?\\d+)");

    public static void main(String[] args) throws IOException {
        String readme = Files.readString(Path.of("README.md"));
        example(readme);
        everyTestIsNamed(readme);
    }

    private static void example(String readme) {
        StringBuilder lines = new StringBuilder();
        Matcher text = TEXT.matcher(readme);
        while (text.find()) {
            lines.append("write \"").append(text.group(1)).append("\"\n");
        }
        Matcher call = CALL.matcher(readme);
        while (call.find()) {
            lines.append(call.group(1)).append(" ").append(call.group(2)).append("\n");
        }
        Runs runs = new Runs("ReadmeTest, the example");
        runs.holds(5, "THE TEXT's CLAUSES are done, and it is empty then: how many there were.", lines.toString());
        runs.end();
    }

    private static void everyTestIsNamed(String readme) throws IOException {
        Checks named = new Checks("ReadmeTest, the tests");
        try (Stream<Path> files = Files.list(Path.of("src/test/java"))) {
            List<String> tests = files.map(file -> file.getFileName().toString().replace(".java", ""))
                .filter(test -> test.endsWith("Test")).sorted().toList();
            for (String test : tests) {
                named.due("README.md names " + test, readme.contains("`" + test + "`") ? 1 : 0, 1);
            }
        }
        named.end();
    }
}
