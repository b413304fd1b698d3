/** Runs every test of the project; ends with exit code 1 if an answer was not as due. */
public final class AllTests {
    private AllTests() {
    }

    public static void main(String[] args) throws Exception {
        Check check = new Check();
        FaceTest.run(check);
        ExamplesTest.run(check);
        GraphTest.run(check);
        WordTest.run(check);
        CountingTest.run(check);
        EncoderTest.run(check);
        ArrayAndSnapshotTest.run(check);
        ModelTest.run(check);
        LanguageTest.run(check, args.length > 0 ? args[0] : "src/main/java/ConstrainedCoder.java");
        System.out.println(check.summary());
        if (!check.allPassed()) {
            System.exit(1);
        }
    }
}
