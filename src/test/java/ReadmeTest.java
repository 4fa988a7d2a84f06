import java.io.IOException;
import java.nio.file.Files;
import java.nio.file.Path;
import java.util.Set;
import java.util.TreeSet;
import java.util.regex.Matcher;
import java.util.regex.Pattern;

/** README.md: its example answers what stands behind its calls, its run can be played, and every call is told of. */
public final class ReadmeTest {
    private static final Pattern TYPED = Pattern.compile("type\\(judge, \"([^\"]*)\"\\);");
    private static final Pattern CALLED = Pattern.compile("judge\\.(\\w+)\\(([-\\d, ]*)\\); +// (-?\\d+)");

    private final Check check = new Check("ReadmeTest");
    private final String readme;

    private ReadmeTest(String readme) {
        this.readme = readme;
    }

    public static void main(String[] args) throws IOException {
        ReadmeTest test = new ReadmeTest(Files.readString(Path.of("README.md")));
        test.example();
        test.run();
        test.calls();
        test.errors();
        test.tests();
        test.check.end();
    }

    private String block(String begin) {
        int from = readme.indexOf(begin) + begin.length();
        return readme.indexOf(begin) < 0 ? "" : readme.substring(from, readme.indexOf("```", from));
    }

    private void example() {
        CodeJudge judge = new CodeJudge();
        int played = 0;
        for (String line : block("```java\n").split("\n")) {
            Matcher typed = TYPED.matcher(line);
            Matcher called = CALLED.matcher(line);
            if (typed.find()) {
                Check.type(judge, typed.group(1));
            } else if (called.find()) {
                check.due(line, Calls.answer(judge, called.group(1), numbers(called.group(2))), Long.parseLong(called.group(3)));
                played++;
            } else {
                check.holds("\"" + line + "\" calls nothing", !line.contains("judge."));
            }
        }
        check.holds("the example was found", played > 5);
    }

    private static int[] numbers(String told) {
        String[] words = told.isEmpty() ? new String[0] : told.split(", *");
        int[] numbers = new int[words.length];
        for (int i = 0; i < words.length; i++) {
            numbers[i] = Integer.parseInt(words[i]);
        }
        return numbers;
    }

    private void run() {
        String run = block("```run\n");
        check.holds("the run was found", !run.isBlank());
        Script.play(check, "run", run.replace("\n", " "));
    }

    private void calls() {
        Set<String> names = new TreeSet<>();
        for (var method : CodeJudge.class.getMethods()) {
            if (method.getDeclaringClass() == CodeJudge.class) {
                names.add(method.getName());
            }
        }
        for (String name : names) {
            check.holds("the table tells of " + name, readme.contains("| `" + name + "("));
        }
    }

    private void errors() {
        String[] rows = {"`NONE` | " + CodeJudge.NONE, "`UNKNOWN` | " + CodeJudge.UNKNOWN, "`OUTSIDE` | " + CodeJudge.OUTSIDE,
            "`STATE` | " + CodeJudge.STATE, "`FULL` | " + CodeJudge.FULL};
        for (String row : rows) {
            check.holds("README.md tells of " + row, readme.contains("| " + row + " |"));
        }
    }

    private void tests() throws IOException {
        try (var files = Files.list(Path.of("src/test/java"))) {
            files.map(file -> file.getFileName().toString()).filter(name -> name.endsWith("Test.java")).forEach(name ->
                check.holds("README.md tells of " + name, readme.contains("`" + name.replace(".java", "") + "`")));
        }
    }
}
