import java.io.IOException;
import java.nio.file.Files;
import java.nio.file.Path;
import java.util.ArrayList;
import java.util.LinkedHashMap;
import java.util.List;
import java.util.Map;
import java.util.regex.Matcher;
import java.util.regex.Pattern;

/**
 * The program has the document's face in the document's words, and answers the document's examples. The sentences that
 * the tests are named by stand in the document, and each clause of the document that names an error code or a range,
 * and each sentence of its description, has a test that is named by it.
 */
final class DocumentTest {
    private static final Pattern ERROR = Pattern.compile("NO_SUCH_STATE|NO_SUCH_EDGE|BAD_VALUE|FULL|NONE|NOT_DETERMINISTIC"
        + "|NOT_AN_ENCODER|ODD_LENGTH|NO_SUCH_SLOT|EMPTY_SLOT|INDEX_OUT_OF_RANGE|NEGATIVE_LENGTH|SYNTAX_ERROR");
    private static final Pattern EXAMPLE = Pattern.compile("(\\w+)\\(([-\\d, ]*)\\) = (-?\\d+)");
    private static final Pattern RETURNED_RANGE = Pattern.compile("Returns .*\\d to \\d.*");
    /** What these say is said again, or made precise, by the sentence behind it. */
    private static final List<String> DEFINITIONS = List.of("The object holds one directed graph with labelled edges",
        "A state generates a word if a path", "A constraint can also be named by a text in the input",
        "For a number p from 1 to 4, an approximate eigenvector is a list", "For a bound b, start with x(s) = b",
        "The encoder has a current state", "To encode the data word v in state s");

    private final Check check;
    private final Sentences sentences;
    private final Map<String, String> sections = new LinkedHashMap<>();

    private DocumentTest(Check check, Sentences sentences) {
        this.check = check;
        this.sentences = sentences;
    }

    static void run(Check check, Sentences sentences, String file, String program)
        throws IOException, ReflectiveOperationException {
        check.about("the document");
        DocumentTest test = new DocumentTest(check, sentences);
        String text = Files.readString(Path.of(file));
        test.read(text);
        test.faceStandsInTheProgram(text, Files.readString(Path.of(program)));
        test.examplesAreAnswered(text);
        test.quotesStandInTheDocument();
        test.clausesAreTested();
    }

    /** Takes the document apart: by its headings, and the description also by its paragraphs. */
    private void read(String text) {
        for (String part : text.split("(?m)^## ")) {
            int end = part.indexOf('\n');
            if (end < 0) {
                continue;
            }
            String name = part.substring(0, end).trim();
            if (!name.equals("Description")) {
                sections.put(name, flat(part.substring(end)));
                continue;
            }
            for (String paragraph : part.substring(end).trim().split("\n\\s*\n")) {
                String line = flat(paragraph);
                int dot = line.indexOf(". ");
                if (dot > 0) {
                    sections.put(line.substring(0, dot), line.substring(dot + 2));
                }
            }
        }
    }

    private static String flat(String text) {
        return text.trim().replaceAll("\\s+", " ");
    }

    private void faceStandsInTheProgram(String text, String program) {
        int lines = 0;
        for (String line : text.split("\n")) {
            if (line.startsWith("    public ") && line.endsWith(";")) {
                lines++;
                String bare = line.substring(0, line.length() - 1);
                check.holds("the program has:" + bare,
                    program.contains("\n" + bare + ";\n") || program.contains("\n" + bare + " {\n"));
            }
        }
        check.is("constants, constructor and methods of the face", lines, 13 + 1 + 43);
    }

    private void examplesAreAnswered(String text) throws ReflectiveOperationException {
        int begin = text.indexOf("Examples: each one begins with a new object");
        int end = text.indexOf("The constants:");
        check.holds("there are examples", begin >= 0 && end > begin);
        int calls = 0;
        for (String example : text.substring(Math.max(begin, 0), Math.max(end, 0)).split("\n- ")) {
            ConstrainedCoder coder = new ConstrainedCoder();
            Matcher call = EXAMPLE.matcher(example);
            while (call.find()) {
                calls++;
                check.is("\"" + call.group() + "\" of the examples", Calls.answer(coder, call.group(1), call.group(2)),
                    Long.parseLong(call.group(3)));
            }
        }
        check.is("calls of the examples", calls, 27);
    }

    private void quotesStandInTheDocument() {
        for (int i = 0; i < sentences.size(); i++) {
            String section = sections.getOrDefault(sentences.sectionOf(i), "");
            check.holds("\"" + sentences.quote(i) + "\" stands in " + sentences.sectionOf(i),
                section.contains(sentences.quote(i)));
        }
    }

    private void clausesAreTested() {
        int clauses = 0;
        for (Map.Entry<String, String> section : sections.entrySet()) {
            boolean promise = section.getKey().startsWith("Promise ");
            if (!promise && !isDescription(section.getKey())) {
                continue;
            }
            for (String clause : section.getValue().split("(?<=[.;:]) ")) {
                if (promise ? ERROR.matcher(clause).find() || RETURNED_RANGE.matcher(clause).matches()
                    : !isDefinition(clause)) {
                    clauses++;
                    check.holds("a test is named by \"" + clause + "\" of " + section.getKey(),
                        isQuoted(section.getKey(), clause));
                }
            }
        }
        check.holds("there are clauses to be tested", clauses > 100);
    }

    private static boolean isDescription(String name) {
        return List.of("Graph", "Words", "Deterministic graphs", "Standard constraints", "Text", "Powers", "Splitting",
            "Approximate eigenvectors", "Encoders", "Anticipation", "Arrays", "Errors", "More precisely").contains(name);
    }

    private static boolean isDefinition(String clause) {
        for (String definition : DEFINITIONS) {
            if (clause.startsWith(definition)) {
                return true;
            }
        }
        return false;
    }

    /** Whether a quote stands in the clause, or the clause in a quote. */
    private boolean isQuoted(String section, String clause) {
        List<String> quotes = new ArrayList<>();
        for (int i = 0; i < sentences.size(); i++) {
            if (sentences.sectionOf(i).equals(section)) {
                quotes.add(sentences.quote(i));
            }
        }
        for (String quote : quotes) {
            if (clause.contains(quote) || quote.contains(bare(clause))) {
                return true;
            }
        }
        return false;
    }

    private static String bare(String clause) {
        return clause.replaceAll("[.;:]$", "");
    }
}
