import java.nio.file.Files;
import java.nio.file.Path;

/**
 * Runs every test of the project; ends with exit code 1 if an answer was not as due. The arguments are the file of the
 * class, the document and README.md.
 */
public final class AllTests {
    private AllTests() {
    }

    public static void main(String[] args) throws Exception {
        String program = args.length > 0 ? args[0] : "src/main/java/ConstrainedCoder.java";
        String document = args.length > 1 ? args[1] : "../shared/DOC.md";
        String readme = args.length > 2 ? args[2] : "README.md";
        Check check = new Check();
        FaceTest.run(check);
        ExamplesTest.run(check);
        ReadmeTest.run(check, readme);
        Sentences sentences = new Sentences(check);
        runSentences(sentences);
        if (Files.exists(Path.of(document))) {
            DocumentTest.run(check, sentences, document, program);
        } else {
            System.out.println("the document is not at " + document + "; the names of the tests were not compared");
        }
        GraphTest.run(check);
        WordTest.run(check);
        CountingTest.run(check);
        EncoderTest.run(check);
        ArrayAndSnapshotTest.run(check);
        ModelTest.run(check);
        RoomTest.run(check);
        LanguageTest.run(check, program);
        System.out.println(sentences.size() + " sentences of the document, each with a test of its own");
        System.out.println(check.summary());
        if (!check.allPassed()) {
            System.exit(1);
        }
    }

    private static void runSentences(Sentences sentences) {
        DescriptionSentencesTest.run(sentences);
        PreciselySentencesTest.run(sentences);
        GraphSentencesTest.run(sentences);
        WordSentencesTest.run(sentences);
        CountingSentencesTest.run(sentences);
        EncoderSentencesTest.run(sentences);
        ArraySentencesTest.run(sentences);
    }
}
