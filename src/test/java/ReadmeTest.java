import java.io.IOException;
import java.nio.file.Files;
import java.nio.file.Path;
import java.util.List;
import java.util.regex.Matcher;
import java.util.regex.Pattern;

/** README.md shows every call, its example answers what it says, and every test stands in its list. */
public final class ReadmeTest {
    private static final Due DUE = new Due("ReadmeTest");
    private static final Path README = Path.of("README.md");
    private static final Path TESTS = Path.of("src/test/java");
    private static final Pattern CALL = Pattern.compile("index\\.(\\w+)\\(([^)]*)\\); +// (.*)");
    private static final Pattern ANSWER = Pattern.compile("\\((-?\\d+)\\)$");

    public static void main(String[] args) throws IOException {
        String readme = Files.readString(README);
        example(readme);
        for (String name : Calls.NAMES) {
            DUE.due("a row for " + name, readme.contains("\n| `" + name + "("), true);
        }
        try (var files = Files.list(TESTS)) {
            for (Path file : files.filter(f -> f.toString().endsWith("Test.java")).toList()) {
                String name = file.getFileName().toString().replace(".java", "");
                DUE.due("a row for " + name, readme.contains("\n| `" + name + "`"), true);
            }
        }
        DUE.due("how to run the tests", readme.contains("\nbash .ci/run\n"), true);
        DUE.end();
    }

    private static void example(String readme) {
        int start = readme.indexOf("```java\n");
        int end = readme.indexOf("```", start + 3);
        DUE.due("an example", start >= 0 && end > start, true);
        RankIndex x = new RankIndex();
        for (String line : readme.substring(start, end).lines().skip(1).toList()) {
            Matcher call = CALL.matcher(line);
            if (!call.matches()) {
                DUE.due("first line", line, "RankIndex index = new RankIndex();");
                continue;
            }
            Matcher answer = ANSWER.matcher(call.group(3));
            DUE.due("an answer in the line " + line, answer.find(), true);
            DUE.due(line, answered(x, call.group(1), call.group(2)), Integer.parseInt(answer.group(1)));
        }
    }

    private static int answered(RankIndex x, String name, String arguments) {
        int[] a = new int[3];
        String[] words = arguments.isEmpty() ? new String[0] : arguments.split(", ");
        for (int i = 0; i < words.length; i++) {
            a[i] = Integer.parseInt(words[i]);
        }
        return Calls.ofProgram(x, List.of(Calls.NAMES).indexOf(name), a);
    }
}
