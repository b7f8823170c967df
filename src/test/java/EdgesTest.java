import java.io.IOException;
import java.nio.file.Files;
import java.nio.file.Path;
import java.util.ArrayList;
import java.util.List;
import java.util.regex.Matcher;
import java.util.regex.Pattern;
import java.util.stream.Stream;

/**
 * Runs the tests under src/test/edges: each of them quotes a sentence of the document and shows where it
 * ends to hold, or begins. The model must give the same answers. README.md tells how they are written.
 */
final class EdgesTest {
    private static final Path EDGES = Path.of("src/test/edges");
    private static final Pattern CALL = Pattern.compile("\\w+\\([^)]*\\)");
    private static final Pattern REPEATED = Pattern.compile("\\{(\\d+) ([^}]+)\\}");

    // A state in which much can be seen: what waits, a checkpoint, a text, errors. Packet 1 has left, 0 and 2 to 4 wait.
    private static final String[] RICH = {"new 1000", "tree M(v,a):r+l;0<p:a+1@100,0^;0<t:a+1@7,9 = 3",
        "assign(1, 2) = 1; setFlowWeight(3, 5) = 1; setNodeWeight(1, 6) = 1; setLinkRate(500) = 1000",
        "enqueue(0, 10, 3, 9) = 0; enqueue(0, 10, 3, 8) = 1; enqueue(1, 40, 2, 7) = 2; enqueue(1, 50, 2, 6) = 3",
        "checkpoint() = 1; transmit() = 1; enqueue(0, 20, 5, 30) = 4; type(112) = 1; type(43) = 2; loadTree() = -3"};

    private final Quotes quotes;
    private String name = "";
    private Script script;
    private Model model;
    private int answers = 1;

    private EdgesTest(Quotes quotes) {
        this.quotes = quotes;
    }

    public static void main(String[] args) throws IOException {
        Quotes quotes = new Quotes(Path.of("../shared/DOC.md"));
        List<Path> files = new ArrayList<>();
        try (Stream<Path> found = Files.list(EDGES)) {
            found.filter(file -> file.toString().endsWith(".txt")).sorted().forEach(files::add);
        }
        Script.due("that there are tests in " + EDGES, files.isEmpty(), false);
        EdgesTest test = new EdgesTest(quotes);
        for (Path file : files) {
            for (String line : Files.readAllLines(file)) {
                test.read(line);
            }
        }
        test.checkNotEmpty();
        quotes.checkAllTested();
        Script.end();
    }

    private void read(String line) {
        if (line.isBlank() || line.startsWith("#")) {
            return;
        }
        if (line.startsWith("== ")) {
            quotes.openSection(line.substring(3));
        } else if (line.startsWith("> ")) {
            checkNotEmpty();
            quotes.check(line.substring(2));
            name = quotes.section() + ": " + line.substring(2);
            begin(1000);
        } else if (line.startsWith("new ")) {
            begin(Integer.parseInt(line.substring(4)));
        } else if (line.equals("rich")) {
            Stream.of(RICH).forEach(this::read);
        } else if (line.startsWith("tree ") || line.startsWith("wrong ")) {
            load(line);
        } else if (line.contains(" times ")) {
            repeat(line);
        } else {
            for (String row : line.split(";")) {
                call(row);
            }
        }
    }

    /** A sentence that is quoted without a call behind it would not be tested at all. */
    private void checkNotEmpty() {
        Script.due("that answers are looked at in " + name, answers > 0, true);
        answers = 0;
    }

    private void begin(int linkRate) {
        script = new Script(name, linkRate);
        model = new Model(linkRate);
    }

    /** "tree TEXT = number of nodes", or "wrong TEXT = positions of its errors". */
    private void load(String line) {
        answers++;
        int sign = line.lastIndexOf(" = ");
        String text = spelledOut(line.substring(line.indexOf(' ') + 1, sign));
        String[] words = line.substring(sign + 3).split(", ");
        int[] numbers = new int[words.length];
        for (int i = 0; i < words.length; i++) {
            numbers[i] = Integer.parseInt(words[i].trim());
        }
        model.clearText();
        text.chars().forEach(model::type);
        int answer = model.loadTree();
        if (line.startsWith("tree ")) {
            script.loaded(text, numbers[0]);
            Script.due(name + ": the model loads " + text, answer, numbers[0]);
            return;
        }
        script.refused(text, numbers);
        for (int i = 0; i < numbers.length; i++) {
            Script.due(name + ": the model's error " + i + " of " + text, model.errorPosition(i), numbers[i]);
        }
        Script.due(name + ": the model's last error of " + text, model.errorPosition(numbers.length), -1);
        model.clearText();
    }

    /** In a text {3 xy} means xyxyxy. */
    private static String spelledOut(String text) {
        return REPEATED.matcher(text).replaceAll(
                found -> Matcher.quoteReplacement(found.group(2).repeat(Integer.parseInt(found.group(1)))));
    }

    /** "64 times enqueue(0, 1, 0, 0), dequeue()". */
    private void repeat(String line) {
        String[] calls = CALL.matcher(line).results().map(found -> found.group()).toArray(String[]::new);
        int times = Integer.parseInt(line.substring(0, line.indexOf(' ')));
        script.times(times, calls);
        for (int i = 0; i < times; i++) {
            for (String call : calls) {
                Script.answer(model, call);
            }
        }
    }

    /** "a(1), a(2) = 5": both calls answer 5. */
    private void call(String row) {
        if (row.isBlank()) {
            return;
        }
        int sign = row.indexOf(" = ");
        String want = row.substring(sign + 3).trim();
        Matcher found = CALL.matcher(row.substring(0, sign));
        while (found.find()) {
            answers++;
            script.calls(found.group() + " = " + want);
            Script.due(name + ": " + found.group() + " of the model", Script.answer(model, found.group()), want);
        }
    }
}
