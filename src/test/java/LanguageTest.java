import java.nio.file.Files;
import java.nio.file.Path;
import java.util.ArrayList;
import java.util.List;
import java.util.regex.Matcher;
import java.util.regex.Pattern;

/** The rules of ../shared/LANGUAGE.md that can be read off the text of the class; run from the project's folder. */
public final class LanguageTest {
    private static final Path CLASS = Path.of("src", "main", "java", "Cubecaller.java");
    private static final Pattern METHOD =
            Pattern.compile("^( {4}| {8})(public |private |static |final )*[\\w<>\\[\\]]+ (\\w+)\\(([^)]*)\\).*");

    public static void main(String[] args) throws Exception {
        Check.of("LANGUAGE.md");
        List<String> lines = new ArrayList<>();
        for (String line : Files.readAllLines(CLASS)) {
            lines.add(line.replaceAll("\"[^\"]*\"", "\"\"").replaceAll("//.*|/\\*\\*.*", ""));
        }
        String text = String.join("\n", lines);
        imports(text);
        words(text);
        exceptions(text);
        statics(lines);
        methods(lines);
        classes(text);
        Check.end("LanguageTest");
    }

    private static int count(String text, String pattern) {
        Matcher matcher = Pattern.compile(pattern).matcher(text);
        int count = 0;
        while (matcher.find()) {
            count++;
        }
        return count;
    }

    private static void none(String text, String pattern) {
        Check.due("how often " + pattern, count(text, pattern), 0);
    }

    private static void imports(String text) {
        Check.due("imports", count(text, "(?m)^import "), count(text, "(?m)^import java\\.util\\.Arrays;"));
        none(text, "(?m)^package ");
        none(text, "\\b(java|javax)\\.(?!util\\.Arrays;)");
    }

    private static void words(String text) {
        for (String word : new String[] {"->", "::", "\\bassert\\b", "\\bsynchronized\\b", "\\bfinally\\b", "\\btry\\b",
            "\\bcatch\\b", "\\bgetMessage\\b", "Exact\\(", "\\bhashCode\\b", "\\btoString\\b", "\\bRandom\\b",
            "\\bSystem\\.(?!arraycopy)", "\\bThread\\b", "\\bthis::", "\\bObject\\b", "\\bfloat\\b", "\\bdouble\\b",
            "\\bprotected\\b", "\\bvar\\b", "\\bnew (int|long|boolean)\\[[^\\]]*\\]\\[[^\\]]*\\]\\["}) {
            none(text, word);
        }
    }

    private static void exceptions(String text) {
        Check.due("throws are of written exceptions", count(text, "\\bthrow\\b"), count(text,
                "throw new (IllegalStateException|IllegalArgumentException|IndexOutOfBoundsException)\\((\"\")?\\);"));
    }

    private static void statics(List<String> lines) {
        for (String line : lines) {
            if (line.matches(".*\\bstatic\\b.*") && !line.contains("(") && !line.contains(" class ")) {
                Check.due("static and final: " + line, line.contains("final"), true);
            }
            none(line, "\\bstatic\\s*\\{");
        }
    }

    private static void methods(List<String> lines) {
        List<String> publicNames = new ArrayList<>();
        for (String line : lines) {
            Matcher method = METHOD.matcher(line);
            if (method.matches() && line.contains("public ")) {
                publicNames.add(method.group(3));
            }
        }
        Check.due("public methods, and the constructor", publicNames.size(), 26);
        for (int i = 0; i < lines.size(); i++) {
            Matcher method = METHOD.matcher(lines.get(i));
            if (!method.matches() || lines.get(i).endsWith(";") || lines.get(i).contains(" new ")) {
                continue;
            }
            String name = method.group(3);
            int length = lines.subList(i, lines.size()).indexOf(method.group(1) + "}") + 1;
            Check.due("lines of " + name + " are few", length <= 60, true);
            Check.due("parameters of " + name + " are few", method.group(4).split(",").length <= 7, true);
            if (!lines.get(i).contains("public ")) {
                Check.due(name + " is the name of a public method", publicNames.contains(name), false);
            }
        }
    }

    private static void classes(String text) {
        Check.due("classes are few", count(text, "\\bclass \\w+ \\{") <= 12, true);
        Check.due("classes inside are private and static",
                count(text, "\\bclass \\w+ \\{"), 1 + count(text, "    private static final class \\w+ \\{"));
    }
}
