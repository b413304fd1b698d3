/** Promises 33 to 38: encoders, anticipation and decoding. */
final class EncoderTest {
    private static final int MIN = Integer.MIN_VALUE;
    private static final int MAX = Integer.MAX_VALUE;

    private EncoderTest() {
    }

    static void run(Check check) {
        isEncoder(check);
        startEncoder(check);
        startEncoderAgain(check);
        encodeInOrder(check);
        encodeErrors(check);
        encoderState(check);
        changesTurnTheEncoderOff(check);
        errorsLeaveTheEncoderOn(check);
        otherCallsLeaveTheEncoderOn(check);
        anticipation(check);
        anticipationOfDeadEnds(check);
        anticipationOfDelays(check);
        decode(check);
        decodeErrors(check);
        decodeAmbiguousWords(check);
        decodeOnlyEncoderPaths(check);
        decodeWhateverTheWordHolds(check);
        splitCodeThereAndBack(check);
    }

    private static ConstrainedCoder fullShift() {
        return Calls.graph(1, 1, 0, 0, 0, 0, 1, 0);
    }

    /** Two states that both go to both; the labels tell the start state only. */
    private static ConstrainedCoder delayed() {
        return Calls.graph(1, 2, 0, 0, 0, 0, 0, 1, 1, 1, 0, 1, 1, 1);
    }

    private static void isEncoder(Check check) {
        check.about("promise 33");
        for (int p : new int[] {0, 5, -1, MIN, MAX}) {
            check.is("p out of range", fullShift().isEncoder(p), -3);
        }
        check.is("without states", new ConstrainedCoder().isEncoder(1), 0);
        check.is("without states, p", new ConstrainedCoder().isEncoder(0), -3);
        for (int p = 1; p <= 4; p++) {
            ConstrainedCoder x = Calls.loops(1 << p);
            check.is("enough edges", x.isEncoder(p), 1);
            x.removeEdge(0);
            check.is("one edge too few", x.isEncoder(p), 0);
        }
        check.is("more edges", Calls.loops(5).isEncoder(2), 1);
        ConstrainedCoder y = fullShift();
        y.addState();
        check.is("a state without edges", y.isEncoder(1), 0);
        check.is("run length", Calls.runLength(0, 7).isEncoder(1), 0);
    }

    private static void startEncoder(Check check) {
        check.about("promise 34");
        ConstrainedCoder x = delayed();
        x.addEdge(1, 0, 0);
        for (int p : new int[] {0, 5, -1, MIN, MAX}) {
            check.is("p out of range", x.startEncoder(p, 2), -3);
        }
        for (int start : new int[] {-1, 2, MIN, MAX}) {
            check.is("no such state", x.startEncoder(2, start), -1);
        }
        check.is("no encoder for 2", x.startEncoder(2, 0), -7);
        check.is("still off", x.encoderState(), -7);
        check.is("startEncoder(1, 1)", x.startEncoder(1, 1), 3);
        check.is("encoderState()", x.encoderState(), 1);
        check.is("startEncoder(1, 0)", x.startEncoder(1, 0), 2);
        check.is("encoderState()", x.encoderState(), 0);
        check.is("without states", new ConstrainedCoder().startEncoder(1, 0), -1);
        check.is("p = 4", Calls.loops(16).startEncoder(4, 0), 16);
        check.is("p = 4, 64 edges", Calls.loops(64).startEncoder(4, 0), 64);
        check.is("p = 4, 15 edges", Calls.loops(15).startEncoder(4, 0), -7);
    }

    private static void startEncoderAgain(Check check) {
        check.about("promise 34, anew");
        ConstrainedCoder x = delayed();
        x.startEncoder(1, 0);
        x.encode(1);
        check.is("encoderState()", x.encoderState(), 1);
        check.is("a failed start", x.startEncoder(1, 2), -1);
        check.is("leaves it on", x.encoderState(), 1);
        check.is("a failed start", x.startEncoder(2, 0), -7);
        check.is("leaves it on", x.encoderState(), 1);
        check.is("decode(0) from state 0", x.decode(0), -5);
        check.is("a new start", x.startEncoder(1, 0), 2);
        check.is("encoderState()", x.encoderState(), 0);
        check.is("the word stays", x.wordLength(), 1);
        x.startEncoder(1, 1);
        check.is("decode(0) from state 1", x.decode(0), -5);
        ConstrainedCoder y = Calls.loops(4);
        y.startEncoder(1, 0);
        check.is("p = 1", y.encode(2), -3);
        y.startEncoder(2, 0);
        check.is("p = 2", y.encode(2), 0);
        y.startEncoder(1, 0);
        check.is("p = 1 again", y.encode(2), -3);
    }

    private static void encodeInOrder(Check check) {
        check.about("promise 35");
        ConstrainedCoder x = Calls.graph(2, 3, 0, 3, 0, 0, 1, 1, 0, 1, 2, 0, 0, 0, 1, 0, 0, 1, 0, 1, 1, 2, 0,
            1, 2, 0, 2, 0, 0, 2, 1, 0, 2, 2, 0, 2, 3, 0);
        int[] labels = {0, 1, 1, 3};
        int[] ends = {0, 1, 2, 0};
        for (int data = 0; data < 4; data++) {
            x.clearWord();
            check.is("startEncoder(2, 0)", x.startEncoder(2, 0), 4);
            check.is("encode(" + data + ")", x.encode(data), labels[data]);
            check.is("encoderState()", x.encoderState(), ends[data]);
            check.is("wordLength()", x.wordLength(), 2);
            check.is("wordBit(0)", x.wordBit(0), labels[data] / 2);
            check.is("wordBit(1)", x.wordBit(1), labels[data] % 2);
        }
        x.clearWord();
        x.startEncoder(2, 0);
        int[] data = {1, 1, 2, 3};
        int[] due = {1, 0, 2, 3};
        for (int i = 0; i < 4; i++) {
            check.is("encode(" + data[i] + ")", x.encode(data[i]), due[i]);
        }
        check.text("word", Calls.word(x), "01001011");
        ConstrainedCoder three = Calls.graph(3, 1, 0, 6, 0, 0, 3, 0);
        three.startEncoder(1, 0);
        check.is("encode(1)", three.encode(1), 6);
        check.is("encode(0)", three.encode(0), 3);
        check.text("word", Calls.word(three), "110011");
    }

    private static void encodeErrors(Check check) {
        check.about("promise 35, errors");
        ConstrainedCoder x = Calls.graph(3, 2, 0, 0, 1, 0, 7, 0, 1, 0, 0, 1, 1, 0);
        check.is("the encoder is off", x.encode(2), -7);
        x.startEncoder(1, 0);
        for (int data : new int[] {2, -1, MIN, MAX}) {
            check.is("no data word", x.encode(data), -3);
        }
        check.is("encoderState()", x.encoderState(), 0);
        check.is("wordLength()", x.wordLength(), 0);
        for (int i = 0; i < 37; i++) {
            x.appendBit(0);
        }
        check.is("38 to 40", x.encode(1), 7);
        check.is("wordLength()", x.wordLength(), 40);
        check.is("full", x.encode(0), -4);
        check.is("a bad data word comes before full", x.encode(2), -3);
        check.is("the state stays", x.encoderState(), 0);
        x.clearWord();
        for (int i = 0; i < 38; i++) {
            x.appendBit(0);
        }
        check.is("41 bits", x.encode(0), -4);
        check.is("wordLength()", x.wordLength(), 38);
        check.is("encoderState()", x.encoderState(), 0);
        ConstrainedCoder y = Calls.loops(16);
        y.startEncoder(4, 0);
        check.is("encode(15)", y.encode(15), 0);
        check.is("encode(16)", y.encode(16), -3);
    }

    private static void encoderState(Check check) {
        check.about("promise 36");
        ConstrainedCoder x = delayed();
        check.is("off", x.encoderState(), -7);
        x.startEncoder(1, 1);
        check.is("on", x.encoderState(), 1);
        x.encode(0);
        check.is("after 0", x.encoderState(), 0);
        x.encode(1);
        check.is("after 1", x.encoderState(), 1);
    }

    private static void changesTurnTheEncoderOff(Check check) {
        check.about("Encoders, what turns them off");
        for (int change = 0; change < 10; change++) {
            ConstrainedCoder x = fullShift();
            x.saveSnapshot();
            Calls.type(x, "rll 0 1");
            x.startEncoder(1, 0);
            check.is("on", x.encoderState(), 0);
            check.holds("change " + change + " succeeds", change(x, change) >= 0);
            check.is("encoderState() after change " + change, x.encoderState(), -7);
            check.is("encode(0) after change " + change, x.encode(0), -7);
            check.is("decode(0) after change " + change, x.decode(0), -7);
        }
    }

    private static int change(ConstrainedCoder x, int change) {
        switch (change) {
            case 0: return x.loadRunLength(1, 3);
            case 1: return x.loadCharge(2);
            case 2: return x.clear(1);
            case 3: return x.addState();
            case 4: return x.addEdge(0, 0, 0);
            case 5: return x.removeEdge(1);
            case 6: return x.power(1);
            case 7: return x.split(0, 1);
            case 8: return x.parseConstraint();
            default: return x.restoreSnapshot();
        }
    }

    private static void errorsLeaveTheEncoderOn(Check check) {
        check.about("Encoders, errors leave them on");
        ConstrainedCoder x = fullShift();
        x.startEncoder(1, 0);
        check.is("loadRunLength", x.loadRunLength(3, 1), -3);
        check.is("loadCharge", x.loadCharge(0), -3);
        check.is("clear", x.clear(0), -3);
        check.is("addEdge", x.addEdge(1, 0, 0), -1);
        check.is("addEdge", x.addEdge(0, 2, 0), -3);
        check.is("removeEdge", x.removeEdge(2), -2);
        check.is("power", x.power(5), -3);
        check.is("split", x.split(0, 3), -3);
        check.is("parseConstraint", x.parseConstraint(), -100);
        check.is("parseConstraint", Calls.parse(x, "charge 9"), -3);
        check.is("restoreSnapshot", x.restoreSnapshot(), -5);
        check.is("encoderState()", x.encoderState(), 0);
        ConstrainedCoder full = Calls.states(1, 16);
        for (int e = 0; e < 64; e++) {
            full.addEdge(e % 16, e / 16 % 2, (e + 1) % 16);
        }
        full.startEncoder(2, 5);
        check.is("addState", full.addState(), -4);
        check.is("addEdge", full.addEdge(0, 0, 0), -4);
        check.is("power", full.power(2), -4);
        check.is("split", full.split(0, 1), -4);
        check.is("encoderState()", full.encoderState(), 5);
        check.is("encode(3)", full.encode(3), 1);
    }

    private static void otherCallsLeaveTheEncoderOn(Check check) {
        check.about("Encoders, other calls leave them on");
        ConstrainedCoder x = fullShift();
        x.startEncoder(1, 0);
        x.appendBit(1);
        x.unrank(0, 3, -1, 5);
        x.invert(1);
        x.clearWord();
        x.balance();
        x.saveSnapshot();
        x.newArray(0, 3);
        x.growthRate(3);
        x.eigenvectorBound(1);
        x.anticipation();
        x.appendCharacter('r');
        check.is("encoderState()", x.encoderState(), 0);
        check.is("encode(1)", x.encode(1), 1);
        check.is("decode(0)", x.decode(0), 1);
    }

    private static void anticipation(Check check) {
        check.about("promise 37");
        check.is("no states", new ConstrainedCoder().anticipation(), 0);
        check.is("no edges", Calls.states(1, 3).anticipation(), 0);
        check.is("deterministic", Calls.runLength(0, 7).anticipation(), 0);
        check.is("delayed", delayed().anticipation(), 1);
        check.is("the same edge twice", Calls.loops(2).anticipation(), -5);
        ConstrainedCoder x = delayed();
        x.split(0, 1);
        check.is("split", x.anticipation(), 2);
    }

    private static void anticipationOfDeadEnds(Check check) {
        check.about("promise 37, dead ends");
        // Two edges of one label, of which one leads to no further path.
        check.is("one dead end", Calls.graph(1, 3, 0, 0, 1, 0, 0, 2, 2, 0, 2).anticipation(), 1);
        check.is("two dead ends", Calls.graph(1, 3, 0, 0, 1, 0, 0, 2).anticipation(), 1);
        check.is("twice to a dead end", Calls.graph(1, 2, 0, 0, 1, 0, 0, 1).anticipation(), 1);
        check.is("twice to a loop", Calls.graph(1, 2, 0, 0, 1, 0, 0, 1, 1, 0, 1).anticipation(), -5);
        check.is("other labels behind", Calls.graph(1, 3, 0, 0, 1, 0, 0, 2, 1, 0, 1, 2, 1, 2).anticipation(), 1);
        check.is("other labels at once", Calls.graph(1, 3, 0, 0, 1, 0, 1, 2, 1, 0, 1, 2, 0, 2).anticipation(), 0);
    }

    private static void anticipationOfDelays(Check check) {
        check.about("promise 37, delays");
        // Two chains of one label that end in different labels after a number of steps.
        for (int steps = 1; steps <= 7; steps++) {
            ConstrainedCoder x = Calls.states(1, 15);
            x.addEdge(0, 0, 1);
            x.addEdge(0, 0, 8);
            for (int i = 1; i < steps; i++) {
                x.addEdge(i, 0, i + 1);
                x.addEdge(i + 7, 0, i + 8);
            }
            x.addEdge(steps, 0, 0);
            x.addEdge(steps + 7, 1, 0);
            check.is("chains of " + steps, x.anticipation(), steps <= 6 ? steps : -5);
        }
    }

    private static void decode(Check check) {
        check.about("promise 38");
        ConstrainedCoder x = delayed();
        x.startEncoder(1, 0);
        int[] data = {1, 0, 0, 1, 1, 1, 0, 1, 0};
        for (int word : data) {
            x.encode(word);
        }
        for (int i = 0; i < data.length - 1; i++) {
            check.is("decode(" + i + ")", x.decode(i), data[i]);
        }
        check.is("the last data word is open", x.decode(8), -5);
        ConstrainedCoder two = Calls.graph(2, 1, 0, 0, 0, 0, 1, 0, 0, 2, 0, 0, 3, 0);
        two.startEncoder(2, 0);
        for (int i = 0; i < 20; i++) {
            two.encode(i * 7 % 4);
        }
        for (int i = 0; i < 20; i++) {
            check.is("decode(" + i + ")", two.decode(i), i * 7 % 4);
        }
        check.is("decode(20)", two.decode(20), -5);
    }

    private static void decodeErrors(Check check) {
        check.about("promise 38, errors");
        ConstrainedCoder x = Calls.graph(2, 1, 0, 0, 0, 0, 3, 0);
        Calls.setWord(x, "0011");
        check.is("off", x.decode(-1), -7);
        x.startEncoder(1, 0);
        for (int index : new int[] {-1, 2, 4, MIN, MAX}) {
            check.is("no index", x.decode(index), -5);
        }
        check.is("decode(0)", x.decode(0), 0);
        check.is("decode(1)", x.decode(1), 1);
        x.appendBit(1);
        check.is("no whole label", x.decode(0), -5);
        x.appendBit(1);
        check.is("decode(2)", x.decode(2), 1);
        x.appendBit(0);
        x.appendBit(1);
        check.is("no path in the end", x.decode(0), -5);
        x.clearWord();
        check.is("the empty word", x.decode(0), -5);
    }

    private static void decodeAmbiguousWords(Check check) {
        check.about("promise 38, several paths");
        // From state 0 two ways of the label 0 lead on, which differ in the first data word, not in the second.
        ConstrainedCoder x = Calls.graph(1, 3, 0, 0, 1, 0, 0, 2, 1, 1, 0, 1, 1, 1, 2, 0, 0, 2, 1, 0);
        x.startEncoder(1, 0);
        Calls.setWord(x, "0");
        check.is("open", x.decode(0), -5);
        Calls.setWord(x, "00");
        check.is("state 2", x.decode(0), 1);
        check.is("its first edge", x.decode(1), 0);
        Calls.setWord(x, "01");
        check.is("state 1 or 2", x.decode(0), -5);
        check.is("0 and 1 to state 1, 1 to state 2", x.decode(1), -5);
        Calls.setWord(x, "0110");
        check.is("only by state 1, first", x.decode(0), 0);
        check.is("to state 1 again", x.decode(1), 1);
        check.is("data word 0 or 1", x.decode(2), 0);
        ConstrainedCoder y = Calls.graph(1, 3, 0, 0, 1, 0, 0, 2, 1, 1, 0, 1, 1, 0, 2, 0, 0, 2, 1, 2);
        y.startEncoder(1, 0);
        Calls.setWord(y, "01");
        check.is("open", y.decode(0), -5);
        check.is("open", y.decode(1), -5);
        Calls.setWord(y, "011");
        check.is("only state 2 takes two ones", y.decode(0), 1);
        check.is("all agree", y.decode(1), 1);
        check.is("all agree", y.decode(2), 1);
    }

    private static void decodeOnlyEncoderPaths(Check check) {
        check.about("promise 38, the first edges only");
        ConstrainedCoder x = Calls.graph(1, 1, 0, 1, 0, 0, 0, 0, 0, 0, 0);
        x.startEncoder(1, 0);
        check.is("encode(1)", x.encode(1), 0);
        check.is("two edges of the label 0", x.decode(0), -5);
        Calls.setWord(x, "1");
        check.is("the third edge is no edge of the encoder", x.decode(0), -5);
        ConstrainedCoder y = Calls.graph(1, 2, 0, 0, 0, 0, 1, 0, 0, 1, 1, 1, 0, 0, 1, 1, 0);
        y.startEncoder(1, 0);
        Calls.setWord(y, "1");
        check.is("the edge to state 1 does not count", y.decode(0), 1);
    }

    private static void decodeWhateverTheWordHolds(Check check) {
        check.about("promise 38, other words");
        ConstrainedCoder x = fullShift();
        Calls.setWord(x, "10");
        x.startEncoder(1, 0);
        check.is("a word that was there before", x.decode(0), 1);
        x.encode(1);
        check.is("what is written behind it", x.decode(2), 1);
        x.invert(3);
        check.is("after invert", x.decode(0), 0);
        check.is("after invert", x.decode(2), 0);
        x.unrank(0, 4, -1, 9);
        check.is("after unrank", x.decode(3), 1);
        check.is("after unrank", x.decode(1), 0);
        ConstrainedCoder y = delayed();
        y.startEncoder(1, 1);
        y.encode(0);
        Calls.setWord(y, "11");
        check.is("from the start state, not from the current one", y.decode(0), 1);
    }

    /** The code of rate 2 : 3 for rll 0 1 that one split makes, with all sequences of four data words. */
    private static void splitCodeThereAndBack(Check check) {
        check.about("promises 15 and 33 to 38, a code");
        for (int message = 0; message < 256; message++) {
            ConstrainedCoder x = Calls.runLength(0, 1);
            check.is("power(3)", x.power(3), 8);
            check.is("eigenvectorBound(2)", x.eigenvectorBound(2), 2);
            check.is("isEncoder(2)", x.isEncoder(2), 0);
            check.is("split(0, 11)", x.split(0, 11), 2);
            check.is("isEncoder(2)", x.isEncoder(2), 1);
            check.is("anticipation()", x.anticipation(), 1);
            x.startEncoder(2, 1);
            for (int i = 0; i < 4; i++) {
                x.encode(message >> 2 * i & 3);
            }
            check.is("firstViolation(1)", x.firstViolation(1), -5);
            for (int i = 0; i < 3; i++) {
                check.is("decode(" + i + ")", x.decode(i), message >> 2 * i & 3);
            }
        }
    }
}
