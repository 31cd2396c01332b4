import java.io.IOException;
import java.nio.file.Files;
import java.nio.file.Path;
import java.util.List;
import java.util.regex.Matcher;
import java.util.regex.Pattern;

/** What LANGUAGE.md forbids, as far as the written program shows it. Its first argument is the program's file. */
public final class LanguageTest {
    private static final int LONGEST_METHOD = 60;
    private static final Check CHECK = new Check();
    private static final Pattern METHOD = Pattern.compile("^ {4}(?: {4})?(?! )[^=]*\\) *(?:throws [\\w, ]+)?\\{$");
    private static final String[] FORBIDDEN = {"->", "::", "\\btry\\b", "\\bcatch\\b", "\\bfinally\\b", "\\bsynchronized\\b",
        "\\bassert\\b", "\\bthrow (?!new (?:IllegalStateException|IllegalArgumentException|IndexOutOfBoundsException|"
        + "UnsupportedOperationException|NoSuchElementException)\\(\"[^\"]*\"\\);)", "\\bpackage\\b", "Exact\\(", "\\bSystem\\b",
        "\\bString\\.", "\\bObject\\b", "\\bequals\\(", "\\bhashCode\\(", "\\btoString\\(", "\\bwhile \\(true\\)", "\\bfor \\(;;",
        "\\bdouble\\b", "\\bfloat\\b", "[^\\x00-\\x7F]", "\\bnull\\b(?!\")", "static \\{"};

    public static void main(String[] args) throws IOException {
        List<String> lines = Files.readAllLines(Path.of(args[0]));
        CHECK.due("the imports", String.join("|", lines.stream().filter(l -> l.startsWith("import ")).toList()),
                "import java.util.NoSuchElementException;");
        for (String line : lines) {
            boolean comment = line.strip().startsWith("*") || line.strip().startsWith("/") && !line.contains("*/ ");
            for (String pattern : FORBIDDEN) {
                CHECK.due(pattern + " in " + line, !comment && Pattern.compile(pattern).matcher(line).find(), false);
            }
        }
        lengths(lines);
        CHECK.end();
    }

    private static void lengths(List<String> lines) {
        int methods = 0;
        for (int i = 0; i < lines.size(); i++) {
            Matcher method = METHOD.matcher(lines.get(i));
            if (method.matches()) {
                methods++;
                String end = " ".repeat(lines.get(i).length() - lines.get(i).stripLeading().length()) + "}";
                int last = i;
                while (!lines.get(last).equals(end)) {
                    last++;
                }
                CHECK.due(lines.get(i).strip() + " is short", last - i < LONGEST_METHOD, true);
            }
        }
        CHECK.due("methods were found", methods > 50, true);
    }
}
