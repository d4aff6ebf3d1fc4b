import java.io.IOException;
import java.nio.file.Files;
import java.nio.file.Path;
import java.util.HashMap;
import java.util.HashSet;
import java.util.Map;
import java.util.Set;
import java.util.regex.Matcher;
import java.util.regex.Pattern;

/** README.md tells each call in the document's words, and the calls of its example answer as it tells. */
public final class ReadmeTest {
    private static final Pattern PROMISE = Pattern.compile("## Promise \\d+: .*\\R+((?:(?!## ).*\\R)+)");
    private static final Pattern EXAMPLE = Pattern.compile("```java\\R(.*?)```", Pattern.DOTALL);
    private static final Pattern MAKING = Pattern.compile("CompactFit store = new CompactFit\\((\\d+)\\);");
    private static final Pattern CALL = Pattern.compile(
        "(?:int (\\w+) = )?store\\.(\\w+)\\(([^)]*)\\);\\s+// (-?\\d+)(?::.*)?");
    private static final int PROMISES = 20;

    private final String readme;
    private final String document;

    private ReadmeTest() throws IOException {
        readme = Files.readString(Path.of("README.md"));
        document = Files.readString(Path.of("../shared/DOC.md"));
    }

    // Where a line ends is nothing that the words say.
    private static String inOneLine(String text) {
        return text.strip().replaceAll("\\s+", " ");
    }

    private void tellsEachCall() {
        String told = inOneLine(readme);
        Matcher promise = PROMISE.matcher(document);
        int found = 0;
        while (promise.find()) {
            found++;
            String words = inOneLine(promise.group(1));
            if (!told.contains("- " + words)) {
                Sentence.wrong("not told: " + words);
            }
        }
        Sentence.due("promises in the document", found, PROMISES);
    }

    private String[] example() {
        Matcher block = EXAMPLE.matcher(readme);
        return block.find() ? block.group(1).split("\\R") : new String[0];
    }

    private void exampleAnswersAsTold() {
        String[] lines = example();
        Matcher making = MAKING.matcher(lines[0]);
        if (!making.matches()) {
            Sentence.wrong("the example begins with: " + lines[0]);
            return;
        }
        Store store = new Store(Integer.parseInt(making.group(1)));
        Map<String, Integer> named = new HashMap<>();
        for (int i = 1; i < lines.length; i++) {
            Matcher call = CALL.matcher(lines[i]);
            if (call.matches()) {
                int got = store.call(call.group(2), numbers(call.group(3), named));
                Sentence.due(lines[i], got, Integer.parseInt(call.group(4)));
                named.put(call.group(1), got);
            } else {
                Sentence.wrong("not a call with its answer: " + lines[i]);
            }
        }
    }

    private static int[] numbers(String arguments, Map<String, Integer> named) {
        if (arguments.isEmpty()) {
            return new int[0];
        }
        String[] words = arguments.split(", ");
        int[] numbers = new int[words.length];
        for (int i = 0; i < words.length; i++) {
            numbers[i] = named.containsKey(words[i]) ? named.get(words[i]) : Integer.parseInt(words[i]);
        }
        return numbers;
    }

    private void exampleShowsTheChanges() {
        Set<String> shown = new HashSet<>();
        for (String line : example()) {
            Matcher call = CALL.matcher(line);
            if (call.matches()) {
                shown.add(call.group(2));
            }
        }
        for (String change : new String[] {"allocate", "free", "resize", "copy", "freeClass", "write", "fill", "exchange"}) {
            if (!shown.contains(change)) {
                Sentence.wrong("the example shows no " + change);
            }
        }
    }

    /** Each test of the project is named, and no other. */
    private void tellsEachTest() {
        String tests = readme.substring(readme.indexOf("## Tests"));
        Set<String> named = new HashSet<>();
        Matcher name = Pattern.compile("`(\\w+Test)`").matcher(tests);
        while (name.find()) {
            named.add(name.group(1));
        }
        Set<String> there = new HashSet<>();
        for (String file : Path.of("src/test/java").toFile().list()) {
            there.add(file.replace(".java", ""));
        }
        if (!named.equals(there)) {
            Sentence.wrong("named are " + named + ", there are " + there);
        }
        if (!tests.contains("`.ci/run`")) {
            Sentence.wrong("how to run the tests is not told");
        }
    }

    public static void main(String[] args) throws IOException {
        ReadmeTest test = new ReadmeTest();
        Sentence.holds("README: its calls in the document's words", test::tellsEachCall);
        Sentence.holds("README: with an example", test::exampleAnswersAsTold);
        Sentence.holds("README: the example shows each change", test::exampleShowsTheChanges);
        Sentence.holds("README: how to run its tests", test::tellsEachTest);
        Sentence.finish();
    }
}
