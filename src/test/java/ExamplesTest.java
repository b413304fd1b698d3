/** The document's Examples, each with a new object. */
final class ExamplesTest {
    private ExamplesTest() {
    }

    static void run(Check check) {
        check.about("Examples");
        runLengthWords(check);
        balance(check);
        encoderOfOneState(check);
        allWords(check);
    }

    private static void runLengthWords(Check check) {
        ConstrainedCoder x = new ConstrainedCoder();
        check.is("loadRunLength(1, 3)", x.loadRunLength(1, 3), 4);
        check.is("countWords(0, 4, -1)", x.countWords(0, 4, -1), 4);
        check.is("unrank(0, 4, -1, 2)", x.unrank(0, 4, -1, 2), 4);
        check.is("wordBit(1)", x.wordBit(1), 1);
        check.is("rank(0, 0)", x.rank(0, 0), 2);
        check.is("loadRunLength(3, 1)", x.loadRunLength(3, 1), -3);
    }

    private static void balance(Check check) {
        ConstrainedCoder x = new ConstrainedCoder();
        check.is("appendBit(1)", x.appendBit(1), 1);
        check.is("appendBit(1)", x.appendBit(1), 2);
        check.is("balance()", x.balance(), 1);
        check.is("wordBit(0)", x.wordBit(0), 0);
        check.is("invert(3)", x.invert(3), -3);
    }

    private static void encoderOfOneState(Check check) {
        ConstrainedCoder x = new ConstrainedCoder();
        check.is("clear(1)", x.clear(1), 0);
        check.is("addState()", x.addState(), 0);
        check.is("addEdge(0, 0, 0)", x.addEdge(0, 0, 0), 0);
        check.is("addEdge(0, 1, 0)", x.addEdge(0, 1, 0), 1);
        check.is("startEncoder(1, 0)", x.startEncoder(1, 0), 2);
        check.is("encode(1)", x.encode(1), 1);
        check.is("decode(0)", x.decode(0), 1);
        check.is("encode(2)", x.encode(2), -3);
        check.is("split(0, 1)", x.split(0, 1), 1);
        check.is("encoderState()", x.encoderState(), -7);
    }

    private static void allWords(Check check) {
        ConstrainedCoder x = new ConstrainedCoder();
        check.is("loadRunLength(0, 1)", x.loadRunLength(0, 1), 2);
        check.is("power(2)", x.power(2), 5);
        check.is("eigenvectorBound(1)", x.eigenvectorBound(1), 1);
        check.is("eigenvectorElement(1, 0)", x.eigenvectorElement(1, 0), 1);
        check.is("eigenvectorElement(4, 0)", x.eigenvectorElement(4, 0), -5);
        check.is("isEncoder(1)", x.isEncoder(1), 1);
    }
}
