import java.nio.file.Files;
import java.nio.file.Path;
import java.util.ArrayList;
import java.util.LinkedHashMap;
import java.util.List;
import java.util.Map;
import java.util.regex.Matcher;
import java.util.regex.Pattern;

/** The example of README.md is the one below, and answers what it says; run from the project's folder. */
public final class ReadmeTest {
    private static final Path README = Path.of("README.md");
    private static final Path TEST = Path.of("src", "test", "java", "ReadmeTest.java");
    private static final Path DOCUMENT = Path.of("..", "shared", "DOC.md");
    private static final Pattern ANSWERED = Pattern.compile("(?:int|long) (\\w+) = .*; +// (\\S+)");
    private static final Pattern CALL = Pattern.compile(" {4}public (?:int|long|boolean|void) (\\w+)\\(.*");
    private static final Pattern CONSTANTS = Pattern.compile(" {4}public static final \\w+ (.*);");

    public static void main(String[] args) throws Exception {
        Check.of("README.md");
        List<String> readme = Files.readAllLines(README);
        List<String> told = between(readme, "```java", "```");
        List<String> run = between(Files.readAllLines(TEST), "// the example", "// the end of the example");
        Check.due("lines of the example", told.size(), run.size());
        for (int i = 0; i < told.size() && i < run.size(); i++) {
            Check.due("line of the example: " + told.get(i), told.get(i).equals(run.get(i)), true);
        }
        answers(told);
        names(String.join("\n", readme));
        Check.end("ReadmeTest");
    }

    private static List<String> between(List<String> lines, String first, String last) {
        List<String> found = new ArrayList<>();
        boolean within = false;
        for (String line : lines) {
            if (within && line.strip().equals(last)) {
                break;
            }
            if (within) {
                found.add(line.strip());
            }
            within = within || line.strip().equals(first);
        }
        return found;
    }

    private static void answers(List<String> told) {
        Map<String, Long> got = example();
        int answered = 0;
        for (String line : told) {
            Matcher matcher = ANSWERED.matcher(line);
            if (matcher.matches()) {
                answered++;
                String want = matcher.group(2);
                Check.due(line, got.get(matcher.group(1)), want.equals("MISSING") ? Cubecaller.MISSING : Long.parseLong(want));
            }
        }
        Check.due("answers that the example tells", answered, got.size());
    }

    private static Map<String, Long> example() {
        // the example
        Cubecaller cube = new Cubecaller();

        // Members: dimension, parent, sign.
        int january = cube.member(0, 0, 1);                                     // 1
        int february = cube.member(0, 0, 1);                                    // 2
        int shoes = cube.member(1, 0, 1);                                       // 1
        int boots = cube.member(1, 0, 1);                                       // 2
        int returned = cube.member(1, shoes, -1);                               // 3

        // Measures, and facts: time, one, two, measure, value.
        int sales = cube.measure(Cubecaller.SUM, 0, 0);                         // 0
        int stock = cube.measure(Cubecaller.LAST, 0, 0);                        // 1
        cube.fact(january, shoes, 0, sales, 40);
        cube.fact(january, returned, 0, sales, 4);
        cube.fact(february, boots, 0, sales, 25);
        cube.fact(january, shoes, 0, stock, 7);
        cube.fact(february, shoes, 0, stock, 5);

        // Cells: 40 - 4 + 25, what was there last, and one without a value.
        long all = cube.cell(0, 0, 0, sales);                                   // 61
        long left = cube.cell(0, 0, 0, stock);                                  // 5
        long nothing = cube.cell(february, shoes, 0, sales);                    // MISSING

        // A calculated member: words come to the draft, calculate() makes it a member.
        cube.word(Cubecaller.LOOK, shoes, 0);
        cube.word(Cubecaller.LOOK, 0, 0);
        cube.word(Cubecaller.PER, 0, 0);
        int share = cube.calculate(1, 0);                                       // 4
        long ofShoes = cube.cell(0, share, 0, sales);                           // 590

        // A set: the leaves of the dimension 1, the one with the greatest sales alone.
        int found = cube.pick(1, Cubecaller.LEAVES, 0, sales, 1);               // 1
        int greatest = cube.picked(1, 0);                                       // 2

        // A number written to a cell, in a session that is dropped.
        cube.begin();
        int changed = cube.write(0, boots, 0, sales, 30, Cubecaller.EQUAL);     // 1
        int facts = cube.end(false);                                            // 5
        // the end of the example
        Map<String, Long> got = new LinkedHashMap<>();
        String[] names = {"january", "february", "shoes", "boots", "returned", "sales", "stock", "all", "left", "nothing",
            "share", "ofShoes", "found", "greatest", "changed", "facts"};
        long[] values = {january, february, shoes, boots, returned, sales, stock, all, left, nothing,
            share, ofShoes, found, greatest, changed, facts};
        for (int i = 0; i < names.length; i++) {
            got.put(names[i], values[i]);
        }
        return got;
    }

    /** README.md names each call and each constant of the document's face. */
    private static void names(String readme) throws Exception {
        int named = 0;
        for (String line : Files.readAllLines(DOCUMENT)) {
            Matcher call = CALL.matcher(line);
            Matcher constants = CONSTANTS.matcher(line);
            String[] names = call.matches() ? new String[] {call.group(1)}
                    : constants.matches() ? constants.group(1).replaceAll(" = [^,]*", "").split(", ") : new String[0];
            for (String name : names) {
                named++;
                Check.due("it names " + name, readme.contains("`" + name + "`"), true);
            }
        }
        Check.due("calls and constants of the face", named, 25 + 22);
    }
}
