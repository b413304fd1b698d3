import java.nio.file.Files;
import java.nio.file.Path;
import java.util.List;
import java.util.regex.Matcher;
import java.util.regex.Pattern;

/** Those rules of LANGUAGE.md that can be seen from the text of the program. */
final class LanguageTest {
    private static final int LONGEST_METHOD = 60;
    private static final int MOST_CLASSES = 12;
    private static final String[] REFUSED = {"\\bcatch\\b", "\\bthrow\\b", "\\btry\\b", "->", "::", "\\bpackage\\b",
        "\\bDouble\\b", "\\bFloat\\b", "\\bsynchronized\\b", "\\bassert\\b", "\\bSystem\\.(?!arraycopy\\b)",
        "\\bArrays\\.(?!fill\\b|copyOf\\b|copyOfRange\\b)", "Exact\\b", "\\bMath\\.(?!min\\b|max\\b|abs\\b)",
        "\\bInteger\\.(?!bitCount\\b)", "\\bimport (?!java\\.util\\.Arrays;)", "\\bwhile \\(true\\)", "for \\(;;",
        "\\bstatic final (double|float)\\b", "\\bprotected\\b", "\\binstanceof\\b", "\\bhashCode\\b",
        "\\bstatic (?!final )(?!.*\\()"};

    private LanguageTest() {
    }

    static void run(Check check, String file) throws java.io.IOException {
        check.about("LANGUAGE.md");
        List<String> lines = Files.readAllLines(Path.of(file));
        String code = String.join("\n", lines).replaceAll("(?s)/\\*.*?\\*/", "").replaceAll("//[^\n]*", "");
        for (String refused : REFUSED) {
            Matcher matcher = Pattern.compile(refused).matcher(code);
            check.holds("nothing matches " + refused, !matcher.find());
        }
        for (String line : lines) {
            check.holds("plain characters in: " + line, line.chars().allMatch(c -> c >= 32 && c < 127));
        }
        Matcher classes = Pattern.compile("\\bclass \\w+ \\{").matcher(code);
        check.holds("not too many classes", classes.results().count() <= MOST_CLASSES);
        checkMethodLengths(check, lines);
        checkThatRowsAreMadeOnce(check, code);
    }

    private static void checkMethodLengths(Check check, List<String> lines) {
        int begin = 0;
        String name = "";
        for (int i = 0; i < lines.size(); i++) {
            String line = lines.get(i);
            if (line.matches(" {4,8}(?! ).*\\) \\{")) {
                begin = i;
                name = line.trim();
            }
            if (line.matches(" {4,8}\\}")) {
                check.holds(name + " is short", i - begin < LONGEST_METHOD);
                begin = i;
            }
        }
    }

    /** Every new stands in the initialiser of a field or in the constructor, so that calls make nothing. */
    private static void checkThatRowsAreMadeOnce(Check check, String code) {
        for (String line : code.split("\n")) {
            if (line.contains("new ")) {
                check.holds("made once: " + line.trim(),
                    line.matches(" *(private final [\\w\\[\\]]+ )?\\w+ = new [\\w.]+(\\(\\)|\\[.*\\]);"));
            }
        }
    }
}
