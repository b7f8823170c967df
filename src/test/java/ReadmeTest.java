import java.io.IOException;
import java.nio.file.Files;
import java.nio.file.Path;
import java.util.List;
import java.util.Set;
import java.util.TreeSet;
import java.util.regex.Matcher;
import java.util.regex.Pattern;
import java.util.stream.Collectors;
import java.util.stream.Stream;

/** What README.md says of the use of the class and of its tests is so. */
final class ReadmeTest {
    private static final Path README = Path.of("README.md");
    private static final Path TESTS = Path.of("src/test/java");
    private static final Pattern NEW = Pattern.compile("SchedulerTree tree = new SchedulerTree\\((\\d+)\\);");
    private static final Pattern TYPED = Pattern.compile("for \\(char c : \"(.*)\"\\.toCharArray\\(\\)\\) tree\\.type\\(c\\);");
    private static final Pattern CALL = Pattern.compile("tree\\.(\\w+\\([^)]*\\)); +// (-?\\d+|throws \\w+)(:.*)?");
    private static final Pattern NAMED = Pattern.compile("`(\\w+Test)`:");

    private Script script;
    private int calls = 0;

    public static void main(String[] args) throws IOException {
        List<String> lines = Files.readAllLines(README);
        new ReadmeTest().runExamples(lines);
        checkNames(lines);
        Script.end();
    }

    private void runExamples(List<String> lines) {
        boolean code = false;
        for (String line : lines) {
            if (line.startsWith("```")) {
                code = line.equals("```java");
            } else if (code) {
                run(line);
            }
        }
        Script.due("that README.md has calls with answers", calls > 0, true);
    }

    private void run(String line) {
        Matcher made = NEW.matcher(line);
        Matcher typed = TYPED.matcher(line);
        Matcher call = CALL.matcher(line);
        if (made.matches()) {
            script = new Script("README.md", Integer.parseInt(made.group(1)));
        } else if (script != null && typed.matches()) {
            script.typed(typed.group(1));
        } else if (script != null && call.matches()) {
            script.calls(call.group(1) + " = " + call.group(2));
            calls++;
        } else {
            Script.due("README.md's line " + line, "not understood", "a call with its answer");
        }
    }

    private static void checkNames(List<String> lines) throws IOException {
        Set<String> named = NAMED.matcher(String.join("\n", lines)).results().map(found -> found.group(1))
                .collect(Collectors.toCollection(TreeSet::new));
        try (Stream<Path> files = Files.list(TESTS)) {
            Set<String> there = files.map(file -> file.getFileName().toString()).filter(name -> name.endsWith("Test.java"))
                    .map(name -> name.substring(0, name.length() - ".java".length())).collect(Collectors.toCollection(TreeSet::new));
            Script.due("the tests that README.md names", named, there);
        }
    }
}
