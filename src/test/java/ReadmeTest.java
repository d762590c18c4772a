import java.io.IOException;
import java.nio.file.Files;
import java.nio.file.Path;
import java.util.ArrayList;
import java.util.List;
import java.util.stream.Stream;

/** README.md: each call of the public face in the document's words, and how to run each test. */
public final class ReadmeTest {
    private static final Path DOCUMENT = Path.of("../shared/DOC.md");
    private static final Path README = Path.of("README.md");
    private static final Path TESTS = Path.of("src/test/java");
    private static final int PROMISES = 19;

    public static void main(String[] args) throws IOException {
        String readme = onOneLine(Files.readString(README));
        saysEachCall(readme);
        namesEachTest(readme);
        exampleAnswersAsItSays();
        Checks.end();
    }

    /** A line may be broken at another place than in the document. */
    private static String onOneLine(String text) {
        return text.replaceAll("\\s+", " ").trim();
    }

    private static void saysEachCall(String readme) throws IOException {
        List<String> promises = promises();
        Checks.due("the document's promises", promises.size(), PROMISES);
        for (String promise : promises) {
            Checks.due("README.md saying: " + promise, readme.contains("- " + promise), true);
        }
    }

    /** What stands under each heading of a promise. */
    private static List<String> promises() throws IOException {
        List<String> promises = new ArrayList<>();
        for (String part : Files.readString(DOCUMENT).split("(?m)^## ")) {
            if (part.startsWith("Promise ")) {
                promises.add(onOneLine(part.substring(part.indexOf('\n'))));
            }
        }
        return promises;
    }

    private static void namesEachTest(String readme) throws IOException {
        Checks.due("README.md naming .ci/run", readme.contains(".ci/run"), true);
        try (Stream<Path> files = Files.list(TESTS)) {
            for (Path file : (Iterable<Path>) files::iterator) {
                String name = file.getFileName().toString();
                if (name.endsWith("Test.java")) {
                    String test = name.substring(0, name.length() - ".java".length());
                    Checks.due("README.md naming " + test, readme.contains("| `" + test + "` |"), true);
                }
            }
        }
    }

    /** The example's lines, as they stand in README.md. */
    private static void exampleAnswersAsItSays() {
        PackStore x = new PackStore();
        int tree = x.store(2);
        x.put(tree, 2);
        x.put(7, 1);
        int commit = x.store(1);
        x.point(0, commit);
        x.want(commit);
        int served = x.serve();
        int kept = x.receive();
        int whole = x.closure(1, commit);
        Checks.due("the example's serve", served, 2);
        Checks.due("the example's receive", kept, 2);
        Checks.due("the example's closure", whole, 2);
    }
}
