/** Promises 39 to 44: arrays and the snapshot. */
final class ArrayAndSnapshotTest {
    private static final int MIN = Integer.MIN_VALUE;
    private static final int MAX = Integer.MAX_VALUE;
    private static final int[] NO_SLOTS = {-1, 3, MIN, MAX};

    private ArrayAndSnapshotTest() {
    }

    static void run(Check check) {
        newArray(check);
        setElement(check);
        element(check);
        firstDifference(check);
        firstDifferenceErrors(check);
        saveSnapshot(check);
        restoreSnapshot(check);
        snapshotHoldsNothingElse(check);
    }

    private static void newArray(Check check) {
        check.about("promise 39");
        ConstrainedCoder x = new ConstrainedCoder();
        for (int slot : NO_SLOTS) {
            check.is("no such slot comes first", x.newArray(slot, 21), -9);
            check.is("no such slot comes first", x.newArray(slot, -1), -9);
        }
        check.is("length 21", x.newArray(0, 21), -3);
        check.is("the greatest length", x.newArray(0, MAX), -3);
        check.is("length -1", x.newArray(0, -1), -12);
        check.is("the least length", x.newArray(0, MIN), -12);
        check.is("still empty", x.element(0, 0), -10);
        check.is("newArray(0, 20)", x.newArray(0, 20), 1);
        for (int i = 0; i < 20; i++) {
            check.is("a zero", x.element(0, i), 0);
            x.setElement(0, i, i + 1);
        }
        check.is("a wrong length", x.newArray(0, 21), -3);
        check.is("leaves the array", x.element(0, 19), 20);
        check.is("a negative length", x.newArray(0, -1), -12);
        check.is("leaves the array", x.element(0, 19), 20);
        check.is("a shorter one", x.newArray(0, 5), 1);
        check.is("its length", x.element(0, 5), -11);
        check.is("a longer one", x.newArray(0, 20), 1);
        for (int i = 0; i < 20; i++) {
            check.is("zeros again", x.element(0, i), 0);
        }
        check.is("length 0", x.newArray(2, 0), 1);
        check.is("has no elements, but is there", x.element(2, 0), -11);
        check.is("slot 1 is empty still", x.element(1, 0), -10);
    }

    private static void setElement(Check check) {
        check.about("promise 40");
        ConstrainedCoder x = new ConstrainedCoder();
        x.newArray(1, 3);
        for (int slot : NO_SLOTS) {
            check.is("no such slot comes first", x.setElement(slot, 9, -1), -9);
        }
        for (int value : new int[] {-1, 10000, MIN, MAX}) {
            check.is("value out of range", x.setElement(1, 0, value), -3);
            check.is("value comes before the empty slot", x.setElement(0, 0, value), -3);
            check.is("value comes before the index", x.setElement(1, 3, value), -3);
        }
        check.is("empty slot comes before the index", x.setElement(0, -1, 5), -10);
        for (int index : new int[] {-1, 3, 20, MIN, MAX}) {
            check.is("index out of range", x.setElement(1, index, 5), -11);
        }
        check.is("setElement(1, 2, 9999)", x.setElement(1, 2, 9999), 0);
        check.is("setElement(1, 2, 7)", x.setElement(1, 2, 7), 9999);
        check.is("setElement(1, 2, 0)", x.setElement(1, 2, 0), 7);
        check.is("setElement(1, 2, 1)", x.setElement(1, 2, 1), 0);
        check.is("the element beside it", x.element(1, 1), 0);
        check.is("a refused value", x.setElement(1, 2, 10000), -3);
        check.is("changes nothing", x.element(1, 2), 1);
    }

    private static void element(Check check) {
        check.about("promise 41");
        ConstrainedCoder x = new ConstrainedCoder();
        for (int slot : NO_SLOTS) {
            check.is("no such slot", x.element(slot, -1), -9);
        }
        check.is("empty slot comes before the index", x.element(2, -1), -10);
        for (int slot = 0; slot < 3; slot++) {
            x.newArray(slot, slot + 1);
            x.setElement(slot, slot, 10 * slot + 1);
        }
        for (int slot = 0; slot < 3; slot++) {
            check.is("element", x.element(slot, slot), 10 * slot + 1);
            for (int index : new int[] {-1, slot + 1, MIN, MAX}) {
                check.is("index out of range", x.element(slot, index), -11);
            }
        }
    }

    private static void firstDifference(Check check) {
        check.about("promise 42");
        ConstrainedCoder x = Calls.runLength(0, 1);
        x.power(3);
        check.is("the vector", x.eigenvectorElement(2, 0) * 10 + x.eigenvectorElement(2, 1), 21);
        x.newArray(0, 0);
        check.is("no elements", x.firstDifference(0, 2), -5);
        x.newArray(0, 1);
        check.is("0 for 2", x.firstDifference(0, 2), 0);
        x.setElement(0, 0, 2);
        check.is("the beginning", x.firstDifference(0, 2), -5);
        x.newArray(0, 2);
        x.setElement(0, 0, 2);
        check.is("0 for 1", x.firstDifference(0, 2), 1);
        x.setElement(0, 1, 1);
        check.is("the whole", x.firstDifference(0, 2), -5);
        check.is("of another p", x.firstDifference(0, 1), 0);
        x.newArray(2, 4);
        x.setElement(2, 0, 2);
        x.setElement(2, 1, 1);
        check.is("an element without a counterpart", x.firstDifference(2, 2), 2);
        x.newArray(1, 3);
        check.is("no eigenvector", x.firstDifference(1, 4), 0);
        x.newArray(1, 0);
        check.is("no eigenvector and no elements", x.firstDifference(1, 4), -5);
        x.newArray(1, 20);
        x.clear(1);
        check.is("without states", x.firstDifference(1, 1), 0);
        ConstrainedCoder y = Calls.graph(1, 2, 0, 0, 0, 0, 1, 0);
        y.newArray(0, 2);
        y.setElement(0, 0, 1);
        check.is("a zero of the vector", y.firstDifference(0, 1), -5);
    }

    private static void firstDifferenceErrors(Check check) {
        check.about("promise 42, errors");
        ConstrainedCoder x = Calls.loops(2);
        for (int slot : NO_SLOTS) {
            check.is("no such slot comes first", x.firstDifference(slot, 0), -9);
        }
        for (int p : new int[] {0, 5, -1, MIN, MAX}) {
            check.is("p comes before the empty slot", x.firstDifference(0, p), -3);
        }
        check.is("empty slot", x.firstDifference(0, 1), -10);
        check.is("empty slot, no eigenvector", x.firstDifference(0, 4), -10);
    }

    private static void saveSnapshot(Check check) {
        check.about("promise 43");
        ConstrainedCoder x = new ConstrainedCoder();
        check.is("of no states", x.saveSnapshot(), 0);
        x.loadRunLength(1, 3);
        Calls.setWord(x, "0110");
        check.is("the empty one", x.restoreSnapshot(), 0);
        check.text("graph", Calls.graphText(x), "1/0:");
        check.is("wordLength()", x.wordLength(), 0);
        x.loadRunLength(1, 3);
        Calls.setWord(x, "0110");
        check.is("replaces the earlier one", x.saveSnapshot(), 4);
        check.is("the graph stays", x.stateCount(), 4);
        x.clear(3);
        x.clearWord();
        check.is("restoreSnapshot()", x.restoreSnapshot(), 4);
        check.text("word", Calls.word(x), "0110");
        x.loadCharge(1);
        x.appendBit(1);
        check.is("saveSnapshot() again", x.saveSnapshot(), 3);
        x.clear(1);
        check.is("the last one is told", x.restoreSnapshot(), 3);
        check.text("word", Calls.word(x), "01101");
    }

    private static void restoreSnapshot(Check check) {
        check.about("promise 44");
        ConstrainedCoder x = Calls.graph(3, 2, 0, 7, 1, 1, 5, 0, 1, 4, 1);
        Calls.setWord(x, "10010");
        String graph = Calls.graphText(x);
        check.is("no snapshot", x.restoreSnapshot(), -5);
        check.text("the graph stays", Calls.graphText(x), graph);
        check.text("the word stays", Calls.word(x), "10010");
        x.saveSnapshot();
        for (int round = 0; round < 3; round++) {
            x.addState();
            x.addEdge(2, 1, 2);
            x.removeEdge(0);
            x.invert(5);
            x.appendBit(1);
            check.is("restoreSnapshot()", x.restoreSnapshot(), 2);
            check.text("graph", Calls.graphText(x), graph);
            check.text("word", Calls.word(x), "10010");
        }
        check.is("with the graph unchanged", x.restoreSnapshot(), 2);
    }

    private static void snapshotHoldsNothingElse(Check check) {
        check.about("promises 43 and 44, what it does not hold");
        ConstrainedCoder x = Calls.loops(2);
        x.newArray(0, 2);
        Calls.type(x, "rll ");
        x.startEncoder(1, 0);
        check.is("saveSnapshot()", x.saveSnapshot(), 1);
        check.is("the encoder stays on", x.encoderState(), 0);
        x.setElement(0, 1, 77);
        x.newArray(1, 1);
        Calls.type(x, "2 ");
        check.is("restoreSnapshot()", x.restoreSnapshot(), 1);
        check.is("the encoder is off", x.encoderState(), -7);
        check.is("the element stays", x.element(0, 1), 77);
        check.is("the new array stays", x.element(1, 0), 0);
        Calls.type(x, "5");
        check.is("the input stays", x.parseConstraint(), 6);
    }
}
