/** The sentences of promises 39 to 44 that name a boundary or a refusal, each with a test of its own. */
final class ArraySentencesTest {
    private static final int MIN = Integer.MIN_VALUE;
    private static final int MAX = Integer.MAX_VALUE;

    private ArraySentencesTest() {
    }

    static void run(Sentences sentences) {
        sentences.section("Promise 39: newArray");
        sentences.test("Puts a new array of zeros into a slot.", ArraySentencesTest::arraysOfZeros);
        sentences.test("The previous array is lost.", ArraySentencesTest::thePreviousArray);
        sentences.test("`length`: the length, 0 to 20", ArraySentencesTest::lengthsFromZeroToTwenty);
        sentences.test("Returns 1", ArraySentencesTest::newArrayTellsOne);
        sentences.test("NO_SUCH_SLOT if slot is out of range (checked first)", ArraySentencesTest::newArrayNoSlot);
        sentences.test("BAD_VALUE if length is greater than 20 (checked second)", ArraySentencesTest::tooLong);
        sentences.test("NEGATIVE_LENGTH.", ArraySentencesTest::negativeLengths);
        sentences.section("Promise 40: setElement");
        sentences.test("`value`: the new value, 0 to 9999", ArraySentencesTest::valuesFromZero);
        sentences.test("Returns the previous value", ArraySentencesTest::thePreviousValue);
        sentences.test("NO_SUCH_SLOT if slot is out of range (checked first)", ArraySentencesTest::setElementNoSlot);
        sentences.test("BAD_VALUE if value is out of range (checked second)", ArraySentencesTest::valuesOutOfRange);
        sentences.test("EMPTY_SLOT if the slot is empty (checked third)", ArraySentencesTest::setElementEmptySlot);
        sentences.test("INDEX_OUT_OF_RANGE.", ArraySentencesTest::setElementNoIndex);
        sentences.section("Promise 41: element");
        sentences.test("Returns the value", ArraySentencesTest::everyElement);
        sentences.test("NO_SUCH_SLOT if slot is out of range (checked first)", ArraySentencesTest::elementNoSlot);
        sentences.test("EMPTY_SLOT if the slot is empty (checked second)", ArraySentencesTest::elementEmptySlot);
        sentences.test("INDEX_OUT_OF_RANGE.", ArraySentencesTest::elementNoIndex);
        runDifferencesAndSnapshots(sentences);
    }

    private static void runDifferencesAndSnapshots(Sentences sentences) {
        sentences.section("Promise 42: firstDifference");
        sentences.test("Returns the index of the first element of an array that is not the element of the approximate "
            + "eigenvector found for p with the same number", ArraySentencesTest::theFirstDifference);
        sentences.test("an element that has no such counterpart differs.", ArraySentencesTest::noCounterpart);
        sentences.test("NO_SUCH_SLOT if slot is out of range (checked first)", ArraySentencesTest::differenceNoSlot);
        sentences.test("BAD_VALUE if p is out of range (checked second)", ArraySentencesTest::differenceWrongP);
        sentences.test("EMPTY_SLOT if the slot is empty (checked third)", ArraySentencesTest::differenceEmptySlot);
        sentences.test("NONE if no element differs.", ArraySentencesTest::noDifference);
        sentences.test("If no eigenvector is found, every element differs.", ArraySentencesTest::withoutVector);
        sentences.section("Promise 43: saveSnapshot");
        sentences.test("An earlier snapshot is replaced.", ArraySentencesTest::anEarlierSnapshot);
        sentences.test("Returns the number of states.", ArraySentencesTest::saveTellsTheStates);
        sentences.section("Promise 44: restoreSnapshot");
        sentences.test("Restores the graph and the current word from the snapshot.", ArraySentencesTest::allIsRestored);
        sentences.test("The snapshot is kept", ArraySentencesTest::theSnapshotIsKept);
        sentences.test("and the encoder is off.", ArraySentencesTest::theEncoderIsOff);
        sentences.test("Returns the number of states", ArraySentencesTest::restoreTellsTheStates);
        sentences.test("NONE if no snapshot was saved.", ArraySentencesTest::noSnapshot);
    }

    private static void arraysOfZeros(Check check) {
        for (int slot = 0; slot < 3; slot++) {
            ConstrainedCoder x = new ConstrainedCoder();
            x.newArray(slot, 20);
            for (int i = 0; i < 20; i++) {
                check.is("element(" + slot + ", " + i + ")", x.element(slot, i), 0);
            }
            for (int other = 0; other < 3; other++) {
                check.is("slot " + other, x.element(other, 0), other == slot ? 0 : -10);
            }
        }
        Effects.changesOnly(check, Scene.WORKING, "newArray(2, 20)", x -> x.newArray(2, 20), Everything.ARRAYS);
    }

    private static ConstrainedCoder filled() {
        ConstrainedCoder x = new ConstrainedCoder();
        for (int slot = 0; slot < 3; slot++) {
            x.newArray(slot, 20);
            for (int i = 0; i < 20; i++) {
                x.setElement(slot, i, 100 * slot + i + 1);
            }
        }
        return x;
    }

    private static void thePreviousArray(Check check) {
        for (int length = 0; length <= 20; length++) {
            ConstrainedCoder x = filled();
            x.newArray(1, length);
            for (int i = 0; i < length; i++) {
                check.is("element(1, " + i + ")", x.element(1, i), 0);
            }
            check.is("behind the end", x.element(1, length), -11);
            check.is("slot 0 stays", x.element(0, 19), 20);
            check.is("slot 2 stays", x.element(2, 0), 201);
            x.newArray(1, 20);
            check.is("what was behind the end is zero too", x.element(1, 19), 0);
        }
    }

    private static void lengthsFromZeroToTwenty(Check check) {
        for (int length = 0; length <= 20; length++) {
            ConstrainedCoder x = new ConstrainedCoder();
            check.is("newArray(0, " + length + ")", x.newArray(0, length), 1);
            check.is("the last element", x.element(0, length - 1), length == 0 ? -11 : 0);
            check.is("behind it", x.element(0, length), -11);
        }
    }

    private static void newArrayTellsOne(Check check) {
        for (int slot = 0; slot < 3; slot++) {
            ConstrainedCoder x = new ConstrainedCoder();
            check.is("of an empty slot", x.newArray(slot, 7), 1);
            check.is("of a slot that is not empty", x.newArray(slot, 7), 1);
            check.is("of no elements", x.newArray(slot, 0), 1);
        }
    }

    private static void newArrayNoSlot(Check check) {
        for (int slot : Calls.outside(0, 2)) {
            for (int length : new int[] {0, 20, 21, MAX, -1, MIN}) {
                Effects.refused(check, Scene.WORKING, "newArray(" + slot + ", " + length + ")",
                    x -> x.newArray(slot, length), -9);
            }
            Effects.refusedEverywhere(check, "newArray(" + slot + ", 5)", x -> x.newArray(slot, 5), -9);
        }
    }

    private static void tooLong(Check check) {
        for (int length : new int[] {21, 22, 32, 256, 276, 65536, 65556, 1 << 30, MAX - 1, MAX}) {
            for (int slot = 0; slot < 3; slot++) {
                int into = slot;
                Effects.refusedEverywhere(check, "newArray(" + slot + ", " + length + ")",
                    x -> x.newArray(into, length), -3);
            }
        }
    }

    private static void negativeLengths(Check check) {
        for (int length : new int[] {-1, -2, -20, -21, -256, -65536, -(1 << 30), MIN + 1, MIN + 20, MIN}) {
            for (int slot = 0; slot < 3; slot++) {
                int into = slot;
                Effects.refusedEverywhere(check, "newArray(" + slot + ", " + length + ")",
                    x -> x.newArray(into, length), -12);
            }
        }
    }

    private static void valuesFromZero(Check check) {
        ConstrainedCoder x = filled();
        int[] values = {0, 1, 127, 128, 255, 256, 9998, 9999};
        for (int value : values) {
            x.setElement(0, 19, value);
            check.is("element(0, 19)", x.element(0, 19), value);
        }
        Effects.changesOnly(check, Scene.WORKING, "setElement(1, 0, 9999)", y -> y.setElement(1, 0, 9999),
            Everything.ARRAYS);
    }

    private static void thePreviousValue(Check check) {
        ConstrainedCoder x = filled();
        for (int i = 0; i < 20; i++) {
            check.is("setElement(2, " + i + ", 9999)", x.setElement(2, i, 9999), 201 + i);
            check.is("setElement(2, " + i + ", 0)", x.setElement(2, i, 0), 9999);
            check.is("setElement(2, " + i + ", 0)", x.setElement(2, i, 0), 0);
            check.is("the next one stays", x.element(2, i + 1), i == 19 ? -11 : 202 + i);
            check.is("another slot stays", x.element(1, i), 101 + i);
        }
    }

    private static void setElementNoSlot(Check check) {
        for (int slot : Calls.outside(0, 2)) {
            for (int value : new int[] {5, -1, 10000}) {
                for (int index : new int[] {0, 20, -1}) {
                    Effects.refused(check, Scene.WORKING, "setElement(" + slot + ", " + index + ", " + value + ")",
                        x -> x.setElement(slot, index, value), -9);
                }
            }
            Effects.refusedEverywhere(check, "setElement(" + slot + ", 0, 0)", x -> x.setElement(slot, 0, 0), -9);
        }
    }

    private static void valuesOutOfRange(Check check) {
        for (int value : Calls.outside(0, 9999)) {
            for (int slot = 0; slot < 3; slot++) {
                int into = slot;
                Effects.refusedEverywhere(check, "setElement(" + slot + ", 0, " + value + ")",
                    x -> x.setElement(into, 0, value), -3);
                Effects.refusedEverywhere(check, "setElement(" + slot + ", 20, " + value + ")",
                    x -> x.setElement(into, 20, value), -3);
            }
        }
    }

    private static void setElementEmptySlot(Check check) {
        for (int index : new int[] {0, 19, 20, -1, MIN, MAX}) {
            Effects.refused(check, Scene.WORKING, "slot 2, " + index, x -> x.setElement(2, index, 0), -10);
            Effects.refused(check, Scene.OFF, "slot 0, " + index, x -> x.setElement(0, index, 9999), -10);
            for (int slot = 0; slot < 3; slot++) {
                int into = slot;
                Effects.refused(check, Scene.NEW, "slot " + slot + ", " + index, x -> x.setElement(into, index, 1),
                    -10);
            }
        }
    }

    private static void setElementNoIndex(Check check) {
        for (int index : Calls.outside(0, 2)) {
            Effects.refused(check, Scene.WORKING, "index " + index + " of 3", x -> x.setElement(0, index, 4), -11);
        }
        for (int index : Calls.outside(0, 19)) {
            for (int slot = 0; slot < 3; slot++) {
                int into = slot;
                Effects.refused(check, Scene.FULL, "index " + index + " of 20", x -> x.setElement(into, index, 4), -11);
            }
        }
        for (int index : new int[] {0, -1, 1, MIN, MAX}) {
            Effects.refused(check, Scene.DEAD_END, "index " + index + " of none", x -> x.setElement(2, index, 0), -11);
        }
        for (int length = 0; length < 20; length++) {
            ConstrainedCoder x = filled();
            x.newArray(0, length);
            check.is("the length as the index", x.setElement(0, length, 1), -11);
        }
    }

    private static void everyElement(Check check) {
        ConstrainedCoder x = filled();
        for (int slot = 0; slot < 3; slot++) {
            for (int i = 0; i < 20; i++) {
                check.is("element(" + slot + ", " + i + ")", x.element(slot, i), 100 * slot + i + 1);
            }
        }
        Effects.asks(check, "element(0, 0)", y -> y.element(0, 0));
        Effects.asks(check, "element(1, 20)", y -> y.element(1, 20));
    }

    private static void elementNoSlot(Check check) {
        for (int slot : Calls.outside(0, 2)) {
            for (int index : new int[] {0, 20, -1, MIN, MAX}) {
                check.is("element(" + slot + ", " + index + ")", filled().element(slot, index), -9);
            }
            Effects.refusedEverywhere(check, "element(" + slot + ", 0)", x -> x.element(slot, 0), -9);
        }
    }

    private static void elementEmptySlot(Check check) {
        for (int index : new int[] {0, 19, 20, -1, MIN, MAX}) {
            for (int slot = 0; slot < 3; slot++) {
                int from = slot;
                Effects.refused(check, Scene.NEW, "element(" + slot + ", " + index + ")",
                    x -> x.element(from, index), -10);
            }
            Effects.refused(check, Scene.WORKING, "element(2, " + index + ")", x -> x.element(2, index), -10);
        }
    }

    private static void elementNoIndex(Check check) {
        for (int length = 0; length <= 20; length++) {
            ConstrainedCoder x = filled();
            x.newArray(1, length);
            for (int index : Calls.outside(0, Math.max(0, length - 1))) {
                check.is("element(1, " + index + ") of " + length, x.element(1, index), -11);
            }
            check.is("the length as the index", x.element(1, length), -11);
        }
        Effects.refused(check, Scene.FULL, "element(0, 20)", x -> x.element(0, 20), -11);
        Effects.refused(check, Scene.DEAD_END, "element(2, 0) of none", x -> x.element(2, 0), -11);
    }

    /** A graph of sixteen states, whose vector for p = 1 has the elements 2 and 1 by turns. */
    private static ConstrainedCoder twosAndOnes() {
        ConstrainedCoder x = Calls.states(1, 16);
        for (int s = 0; s < 16; s += 2) {
            x.addEdge(s, 0, (s + 2) % 16);
            x.addEdge(s, 0, (s + 3) % 16);
            x.addEdge(s, 1, s + 1);
            x.addEdge(s + 1, 1, s);
        }
        for (int slot = 0; slot < 2; slot++) {
            x.newArray(slot, slot == 0 ? 16 : 17);
            for (int i = 0; i < 16; i++) {
                x.setElement(slot, i, 2 - i % 2);
            }
        }
        return x;
    }

    private static void theFirstDifference(Check check) {
        check.is("eigenvectorBound(1)", twosAndOnes().eigenvectorBound(1), 2);
        for (int first = 0; first < 16; first++) {
            ConstrainedCoder x = twosAndOnes();
            x.setElement(0, first, 3);
            check.is("a 3 at " + first, x.firstDifference(0, 1), first);
            x.setElement(0, first, 0);
            check.is("a 0 at " + first, x.firstDifference(0, 1), first);
            x.setElement(0, 15, 9999);
            check.is("and another at the end", x.firstDifference(0, 1), first);
            x.setElement(0, first, 2 - first % 2);
            check.is("the one at the end", x.firstDifference(0, 1), first == 15 ? -5 : 15);
        }
        Effects.asks(check, "firstDifference(0, 1)", x -> x.firstDifference(0, 1));
        Effects.asks(check, "firstDifference(1, 4)", x -> x.firstDifference(1, 4));
    }

    private static void noCounterpart(Check check) {
        check.is("element 16 of 16 states", twosAndOnes().firstDifference(1, 1), 16);
        for (int length = 0; length <= 20; length++) {
            ConstrainedCoder x = Calls.graph(1, 3, 0, 0, 0, 0, 1, 0);
            x.newArray(0, length);
            x.setElement(0, 0, 1);
            check.is("1 and zeros, " + length, x.firstDifference(0, 1), length <= 3 ? -5 : 3);
        }
    }

    private static void differenceNoSlot(Check check) {
        for (int slot : Calls.outside(0, 2)) {
            for (int p : new int[] {1, 4, 0, 5, MIN, MAX}) {
                Effects.refused(check, Scene.WORKING, "firstDifference(" + slot + ", " + p + ")",
                    x -> x.firstDifference(slot, p), -9);
            }
            Effects.refusedEverywhere(check, "firstDifference(" + slot + ", 1)", x -> x.firstDifference(slot, 1), -9);
        }
    }

    private static void differenceWrongP(Check check) {
        for (int p : Calls.outside(1, 4)) {
            for (int slot = 0; slot < 3; slot++) {
                int of = slot;
                Effects.refusedEverywhere(check, "firstDifference(" + slot + ", " + p + ")",
                    x -> x.firstDifference(of, p), -3);
            }
        }
    }

    private static void differenceEmptySlot(Check check) {
        for (int p = 1; p <= 4; p++) {
            int number = p;
            Effects.refused(check, Scene.WORKING, "slot 2 for " + p, x -> x.firstDifference(2, number), -10);
            Effects.refused(check, Scene.OFF, "slot 0 for " + p, x -> x.firstDifference(0, number), -10);
            for (int slot = 0; slot < 3; slot++) {
                int of = slot;
                Effects.refused(check, Scene.NEW, "slot " + slot + " for " + p, x -> x.firstDifference(of, number),
                    -10);
            }
        }
    }

    private static void noDifference(Check check) {
        check.is("all sixteen", twosAndOnes().firstDifference(0, 1), -5);
        Effects.refused(check, ArraySentencesTest::twosAndOnes, "all sixteen", x -> x.firstDifference(0, 1), -5);
        for (int length = 0; length <= 16; length++) {
            ConstrainedCoder x = twosAndOnes();
            x.newArray(2, length);
            for (int i = 0; i < length; i++) {
                x.setElement(2, i, 2 - i % 2);
            }
            check.is("the first " + length, x.firstDifference(2, 1), -5);
        }
        Effects.refused(check, Scene.DEAD_END, "no elements", x -> x.firstDifference(2, 1), -5);
    }

    private static void withoutVector(Check check) {
        for (int p = 1; p <= 4; p++) {
            ConstrainedCoder x = Calls.graph(1, 2, 0, 0, 1, 1, 0, 0);
            for (int length = 0; length <= 20; length++) {
                x.newArray(1, length);
                check.is("zeros, " + length, x.firstDifference(1, p), length == 0 ? -5 : 0);
            }
        }
        ConstrainedCoder empty = new ConstrainedCoder();
        empty.newArray(0, 20);
        check.is("without states", empty.firstDifference(0, 1), 0);
        empty.newArray(0, 0);
        check.is("without states or elements", empty.firstDifference(0, 1), -5);
    }

    private static void anEarlierSnapshot(Check check) {
        ConstrainedCoder x = Scene.FULL.make();
        x.saveSnapshot();
        x.loadRunLength(0, 0);
        Calls.setWord(x, "101");
        check.is("saveSnapshot()", x.saveSnapshot(), 1);
        x.loadCharge(7);
        Calls.setWord(x, "11110000");
        check.is("restoreSnapshot()", x.restoreSnapshot(), 1);
        check.text("graph", Calls.graphText(x), "1/1: 0-1-0");
        check.text("word", Calls.word(x), "101");
        x.clear(3);
        x.clearWord();
        check.is("of nothing", x.saveSnapshot(), 0);
        x.loadCharge(7);
        Calls.setWord(x, "1");
        check.is("restoreSnapshot()", x.restoreSnapshot(), 0);
        check.text("graph", Calls.graphText(x), "3/0:");
        check.text("word", Calls.word(x), "");
    }

    private static void saveTellsTheStates(Check check) {
        for (int states = 0; states <= 16; states++) {
            check.is("saveSnapshot()", Calls.states(1, states).saveSnapshot(), states);
        }
        for (Scene scene : Scene.values()) {
            Effects.changesOnly(check, scene, "saveSnapshot() when " + scene, x -> x.saveSnapshot(),
                Everything.SNAPSHOT);
        }
    }

    private static void allIsRestored(Check check) {
        for (Scene scene : Scene.values()) {
            String graph = Calls.graphText(scene.make());
            String word = Calls.word(scene.make());
            ConstrainedCoder x = scene.make();
            x.saveSnapshot();
            x.loadCharge(6);
            x.addEdge(0, 1, 0);
            Calls.setWord(x, "0101010101");
            check.is("restoreSnapshot() when " + scene, x.restoreSnapshot(), scene.make().stateCount());
            check.text("graph", Calls.graphText(x), graph);
            check.text("word", Calls.word(x), word);
            check.is("wordBit behind the end", x.wordBit(word.length()), -5);
        }
        Effects.changesOnly(check, Scene.FULL, "restoreSnapshot()", x -> x.restoreSnapshot(), Everything.GRAPH,
            Everything.WORD, Everything.ENCODER, Everything.ENCODER_START);
    }

    /** What is done after saving or restoring does not reach into the snapshot. */
    private static void theSnapshotIsKept(Check check) {
        ConstrainedCoder x = Calls.graph(2, 2, 0, 1, 1, 1, 2, 0, 1, 3, 1);
        Calls.setWord(x, "0110");
        x.saveSnapshot();
        for (int round = 0; round < 5; round++) {
            x.invert(4);
            x.appendBit(1);
            x.removeEdge(0);
            x.addEdge(1, 0, 0);
            x.addState();
            x.split(1, 1);
            check.is("restoreSnapshot()", x.restoreSnapshot(), 2);
            check.text("graph", Calls.graphText(x), "2/2: 0-1-1 1-2-0 1-3-1");
            check.text("word", Calls.word(x), "0110");
        }
        check.is("once more", x.restoreSnapshot(), 2);
        Effects.changesOnly(check, Scene.WORKING, "restoreSnapshot()", y -> y.restoreSnapshot(), Everything.GRAPH,
            Everything.WORD, Everything.ENCODER, Everything.ENCODER_START);
    }

    private static void theEncoderIsOff(Check check) {
        ConstrainedCoder x = Calls.loops(2);
        x.startEncoder(1, 0);
        x.saveSnapshot();
        check.is("on after saving", x.encoderState(), 0);
        check.is("restoreSnapshot()", x.restoreSnapshot(), 1);
        check.is("off after restoring", x.encoderState(), -7);
        check.is("encode(0)", x.encode(0), -7);
        check.is("decode(0)", x.decode(0), -7);
        ConstrainedCoder empty = new ConstrainedCoder();
        empty.saveSnapshot();
        empty.addState();
        empty.addEdge(0, 0, 0);
        empty.addEdge(0, 1, 0);
        empty.startEncoder(1, 0);
        empty.encode(1);
        check.is("eigenvectorBound(1)", empty.eigenvectorBound(1), 1);
        check.is("restoreSnapshot() to no states", empty.restoreSnapshot(), 0);
        check.is("off after restoring nothing", empty.encoderState(), -7);
        check.is("encode(0)", empty.encode(0), -7);
        check.is("decode(0)", empty.decode(0), -7);
        check.is("eigenvectorBound(1)", empty.eigenvectorBound(1), -5);
    }

    private static void restoreTellsTheStates(Check check) {
        for (int states = 0; states <= 16; states++) {
            ConstrainedCoder x = Calls.states(1, states);
            x.saveSnapshot();
            x.loadRunLength(0, 4);
            check.is("restoreSnapshot()", x.restoreSnapshot(), states);
            check.is("stateCount()", x.stateCount(), states);
        }
    }

    private static void noSnapshot(Check check) {
        Effects.refused(check, Scene.NEW, "restoreSnapshot()", x -> x.restoreSnapshot(), -5);
        Effects.refused(check, Scene.OFF, "restoreSnapshot()", x -> x.restoreSnapshot(), -5);
        Effects.refused(check, () -> started(), "restoreSnapshot() with an encoder", x -> x.restoreSnapshot(), -5);
    }

    private static ConstrainedCoder started() {
        ConstrainedCoder x = Calls.loops(3);
        x.startEncoder(1, 0);
        x.encode(1);
        return x;
    }
}
