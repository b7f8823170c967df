import java.io.IOException;
import java.nio.file.Files;
import java.nio.file.Path;
import java.util.ArrayList;
import java.util.LinkedHashMap;
import java.util.List;
import java.util.Map;
import java.util.regex.Pattern;

/** The sentences of the document's terms and promises that ask for a test, and those that tests have quoted. */
final class Quotes {
    // The examples have a test of their own; the rest says nothing that other sentences do not say.
    private static final Pattern PASSED = Pattern.compile("Examples:|\\d\\. |Ahead of the calls|Entering and shaping\\.$|"
            + "A node consists of$|Each node of the tree has a small program");

    private final Map<String, String> sections = new LinkedHashMap<>();
    private final Map<String, List<String>> needed = new LinkedHashMap<>();
    private final Map<String, List<String>> quoted = new LinkedHashMap<>();
    private String open = "";

    Quotes(Path document) throws IOException {
        String heading = "";
        for (String line : Files.readAllLines(document)) {
            if (line.startsWith("## ")) {
                heading = line.substring(3);
            } else if (heading.equals("Terms") || heading.startsWith("Promise ")) {
                sections.merge(heading, line, (above, below) -> above + "\n" + below);
                needed.computeIfAbsent(heading, key -> new ArrayList<>()).addAll(sentences(line));
            }
        }
    }

    private static List<String> sentences(String line) {
        List<String> all = new ArrayList<>();
        boolean range = line.matches(".*(\\d|;| or more).*");
        if (line.startsWith("- `") && !range || line.startsWith("Returns ") && !range || PASSED.matcher(line).lookingAt()) {
            return all;
        }
        for (String sentence : line.split("(?<=[.:]) (?=[A-Z])")) {
            boolean signature = sentence.startsWith("`") && sentence.endsWith("`:");
            if (sentence.contains(" ") && !signature && !PASSED.matcher(sentence).lookingAt()) {
                all.add(sentence);
            }
        }
        return all;
    }

    String section() {
        return open;
    }

    void openSection(String heading) {
        open = heading;
        Script.due("the document's section " + heading, sections.containsKey(heading), true);
        quoted.putIfAbsent(heading, new ArrayList<>());
    }

    void check(String quote) {
        boolean found = sections.getOrDefault(open, "").contains(quote);
        Script.due("the document's sentence (" + open + ") " + quote, found, true);
        quoted.get(open).add(quote);
    }

    void checkAllTested() {
        for (Map.Entry<String, List<String>> section : needed.entrySet()) {
            List<String> quotes = quoted.getOrDefault(section.getKey(), List.of());
            for (String sentence : section.getValue()) {
                boolean tested = quotes.stream().anyMatch(sentence::contains);
                Script.due("a test of (" + section.getKey() + ") " + sentence, tested, true);
            }
        }
    }
}
