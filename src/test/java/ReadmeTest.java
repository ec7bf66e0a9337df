import java.io.IOException;
import java.nio.file.Files;
import java.nio.file.Path;
import java.util.ArrayList;
import java.util.HashSet;
import java.util.List;
import java.util.Set;
import java.util.TreeSet;
import java.util.regex.Matcher;
import java.util.regex.Pattern;
import java.util.stream.Stream;

/** README.md (run from the project's folder): what it shows of calls and answers is what the class answers. */
public final class ReadmeTest {
    private static final Due due = new Due("ReadmeTest");
    private static final Path PAGE = Path.of("README.md");
    private static final Path TESTS = Path.of("src/test/java");
    private static final String NEW_OBJECT = "LooseHeap x = new LooseHeap();";
    private static final Pattern SHOWN = Pattern.compile("x\\.(\\w+)(\\([-0-9, ]*\\)); +// ([A-Z]+|-?[0-9]+)(: .+)?");
    private static final Pattern CONSTANT = Pattern.compile("\\| `([A-Z]+)` \\| (-[0-9]+) \\|.*");
    private static final Pattern TEST = Pattern.compile("\\| `(\\w+Test)` \\|.*");
    private static final String[] GROUPS = {"### Jobs", "### Benches", "### The net", "### Images", "### What a refused call answers"};
    private static final String[] REFUSALS = {"UNKNOWN", "OUTSIDE", "NOT", "FULL", "PLACE", "STORE"};
    private static final String[] CALLS = {"put", "lower", "take", "drop", "join", "clear", "drift", "told", "job", "child", "loose", "bits", "sit", "sits", "net", "road", "tree", "way", "ways", "keep", "goBack"};

    private static final Set<String> calls = new HashSet<>();
    private static final Set<String> answers = new HashSet<>();

    /** The java blocks below a heading, up to the next one. */
    private static List<List<String>> examplesBelow(String heading, List<String> page) {
        List<List<String>> found = new ArrayList<>();
        boolean below = false;
        List<String> block = null;
        for (String line : page) {
            if (line.startsWith("#")) {
                below = line.equals(heading);
            } else if (below && line.equals("```java")) {
                block = new ArrayList<>();
            } else if (block != null && line.equals("```")) {
                found.add(block);
                block = null;
            } else if (block != null) {
                block.add(line);
            }
        }
        return found;
    }

    private static void make(String heading, List<String> example) {
        due.holds(0, heading + ": the example begins with a new object", !example.isEmpty() && example.get(0).equals(NEW_OBJECT));
        LooseHeap x = new LooseHeap();
        for (String line : example.subList(1, example.size())) {
            Matcher shown = SHOWN.matcher(line);
            due.holds(0, heading + ": a call with its answer: " + line, shown.matches());
            if (shown.matches()) {
                due.is(0, heading + ": " + line, Call.of(shown.group(1) + shown.group(2)).on(x), Sentences.number(shown.group(3)));
                calls.add(shown.group(1));
                answers.add(shown.group(3));
            }
        }
    }

    private static void examples(List<String> page) {
        int made = 0;
        for (String heading : GROUPS) {
            List<List<String>> found = examplesBelow(heading, page);
            due.holds(0, heading + ": there is an example", !found.isEmpty());
            for (List<String> example : found) {
                make(heading, example);
                made++;
            }
        }
        due.is(0, "examples that stand below no such heading", page.stream().filter(line -> line.equals("```java")).count() - made, 0);
        for (String call : CALLS) {
            due.holds(0, call + " is shown", calls.contains(call));
        }
        for (String refusal : REFUSALS) {
            due.holds(0, refusal + " is shown as an answer", answers.contains(refusal));
        }
    }

    private static void constants(List<String> page) {
        Set<String> listed = new TreeSet<>();
        for (String line : page) {
            Matcher constant = CONSTANT.matcher(line);
            if (constant.matches()) {
                listed.add(constant.group(1));
                due.is(0, line, Long.parseLong(constant.group(2)), Sentences.number(constant.group(1)));
            }
        }
        due.holds(0, "the refusals are listed: " + listed, listed.equals(new TreeSet<>(List.of(REFUSALS))));
    }

    private static void tests(List<String> page) throws IOException {
        Set<String> listed = new TreeSet<>();
        for (String line : page) {
            Matcher test = TEST.matcher(line);
            if (test.matches()) {
                listed.add(test.group(1));
            }
        }
        Set<String> there = new TreeSet<>();
        try (Stream<Path> files = Files.list(TESTS)) {
            files.map(file -> file.getFileName().toString()).filter(name -> name.endsWith("Test.java")).forEach(name -> there.add(name.substring(0, name.length() - 5)));
        }
        due.holds(0, "the tests that are listed " + listed + " are those that there are " + there, listed.equals(there));
        due.holds(0, "how the tests are run is told", page.stream().anyMatch(line -> line.contains("bash .ci/run")));
    }

    public static void main(String[] args) throws IOException {
        List<String> page = Files.readAllLines(PAGE);
        examples(page);
        constants(page);
        tests(page);
        due.end();
    }
}
