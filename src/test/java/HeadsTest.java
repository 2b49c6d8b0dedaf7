import java.nio.file.Files;
import java.nio.file.Path;
import java.util.ArrayList;
import java.util.List;
import java.util.stream.Stream;

/** Each promise of ../shared/DOC.md, and each head of its 'Terms', has tests that name it; run from the project's folder. */
public final class HeadsTest {
    private static final Path DOCUMENT = Path.of("..", "shared", "DOC.md");
    private static final Path TESTS = Path.of("src", "test", "java");
    private static final int PROMISES = 26;
    private static final int HEADS = 6;

    public static void main(String[] args) throws Exception {
        Check.of("the tests");
        List<String> tests = new ArrayList<>();
        try (Stream<Path> files = Files.list(TESTS)) {
            for (Path file : (Iterable<Path>) files.sorted()::iterator) {
                tests.add(Files.readString(file));
            }
        }
        int promises = 0;
        int heads = 0;
        for (String line : Files.readAllLines(DOCUMENT)) {
            if (line.startsWith("## Promise ")) {
                promises++;
                named(tests, line.substring(3));
            } else if (line.matches("[A-Z]+(,? [A-Z]+)*")) {
                heads++;
                named(tests, "Terms: " + line);
            }
        }
        Check.due("promises", promises, PROMISES);
        Check.due("heads of the 'Terms'", heads, HEADS);
        Check.end("HeadsTest");
    }

    private static void named(List<String> tests, String name) {
        int often = 0;
        for (String test : tests) {
            often += test.contains("Check.of(\"" + name + "\")") ? 1 : 0;
        }
        Check.due("a test that names " + name, often > 0, true);
    }
}
