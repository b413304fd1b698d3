import java.util.ArrayList;
import java.util.List;

/** Runs tests that are each named by the sentence of the document that they belong to. */
final class Sentences {
    /** A test of one sentence. */
    interface Test {
        void run(Check check);
    }

    private final Check check;
    private final List<String> sections = new ArrayList<>();
    private final List<String> quotes = new ArrayList<>();
    private String section = "";

    Sentences(Check check) {
        this.check = check;
    }

    /** Names the section of the document in which the next sentences stand. */
    void section(String name) {
        section = name;
    }

    void test(String quote, Test test) {
        sections.add(section);
        quotes.add(quote);
        check.about(section + ", \"" + quote + "\"");
        int before = check.compared();
        try {
            test.run(check);
        } catch (RuntimeException | StackOverflowError problem) {
            check.text("the test", "threw " + problem, "ended");
        }
        check.holds("the sentence has a test", check.compared() > before);
    }

    int size() {
        return quotes.size();
    }

    String sectionOf(int index) {
        return sections.get(index);
    }

    String quote(int index) {
        return quotes.get(index);
    }
}
