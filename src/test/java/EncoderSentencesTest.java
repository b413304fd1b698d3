/** The sentences of promises 33 to 38 that name a boundary or a refusal, each with a test of its own. */
final class EncoderSentencesTest {
    private static final int MIN = Integer.MIN_VALUE;
    private static final int MAX = Integer.MAX_VALUE;

    private EncoderSentencesTest() {
    }

    static void run(Sentences sentences) {
        sentences.section("Promise 33: isEncoder");
        sentences.test("`p`: the number, 1 to 4", EncoderSentencesTest::encodersForOneToFour);
        sentences.test("Returns 1 if it is, otherwise 0", EncoderSentencesTest::encodersOrNot);
        sentences.test("BAD_VALUE if p is out of range.", EncoderSentencesTest::isEncoderOutOfRange);
        sentences.section("Promise 34: startEncoder");
        sentences.test("Returns the number of edges of the start state", EncoderSentencesTest::startTellsTheEdges);
        sentences.test("BAD_VALUE if p is out of range (checked first)", EncoderSentencesTest::startWithWrongP);
        sentences.test("NO_SUCH_STATE (checked second)", EncoderSentencesTest::startAtNoSuchState);
        sentences.test("NOT_AN_ENCODER if the graph is not an encoder for p.",
            EncoderSentencesTest::startWithoutEncoder);
        sentences.section("Promise 35: encode");
        sentences.test("Returns the label", EncoderSentencesTest::encodeTellsTheLabel);
        sentences.test("NOT_AN_ENCODER if the encoder is off (checked first)", EncoderSentencesTest::encodeWhenOff);
        sentences.test("BAD_VALUE if data is not from 0 to 2^p - 1 (checked second)",
            EncoderSentencesTest::noDataWords);
        sentences.test("FULL if the current word would have more than 40 bits.", EncoderSentencesTest::wordsThatAreFull);
        sentences.section("Promise 36: encoderState");
        sentences.test("Returns the state", EncoderSentencesTest::everyState);
        sentences.test("NOT_AN_ENCODER if the encoder is off.", EncoderSentencesTest::stateWhenOff);
        sentences.section("Promise 37: anticipation");
        sentences.test("Returns 0 to 6", EncoderSentencesTest::anticipationsFromZeroToSix);
        sentences.test("NONE if there is no such number.", EncoderSentencesTest::noAnticipation);
        runDecode(sentences);
    }

    private static void runDecode(Sentences sentences) {
        sentences.section("Promise 38: decode");
        sentences.test("for the encoder that startEncoder(p, start) turned on last",
            EncoderSentencesTest::theEncoderThatWasStartedLast);
        sentences.test("The path of the encoder begins at that start state.",
            EncoderSentencesTest::pathsFromTheStartState);
        sentences.test("if all paths from that start state whose labels are the current word",
            EncoderSentencesTest::allPathsAgree);
        sentences.test("whose edges are all among the first 2^p edges of their start states in the order by labels and "
            + "numbers", EncoderSentencesTest::pathsOfTheFirstEdges);
        sentences.test("and there is at least one such path.", EncoderSentencesTest::noSuchPath);
        sentences.test("Returns the data word", EncoderSentencesTest::everyDataWord);
        sentences.test("NOT_AN_ENCODER if the encoder is off (checked first)", EncoderSentencesTest::decodeWhenOff);
        sentences.test("NONE if the length of the current word is not a multiple of the label length",
            EncoderSentencesTest::noWholeLabels);
        sentences.test("index is not less than its number of labels or is negative",
            EncoderSentencesTest::noIndexOfALabel);
        sentences.test("or the data word is not determined.", EncoderSentencesTest::notDetermined);
    }

    private static void encodersForOneToFour(Check check) {
        for (int p = 1; p <= 4; p++) {
            for (int edges = 0; edges <= 64; edges++) {
                check.is(edges + " edges for " + p, Calls.loops(edges).isEncoder(p), edges >= 1 << p ? 1 : 0);
            }
        }
        Effects.asks(check, "isEncoder(1)", x -> x.isEncoder(1));
        Effects.asks(check, "isEncoder(4)", x -> x.isEncoder(4));
    }

    private static void encodersOrNot(Check check) {
        for (int poor = 0; poor < 16; poor++) {
            ConstrainedCoder x = Calls.states(1, 16);
            for (int s = 0; s < 16; s++) {
                x.addEdge(s, 0, 0);
                x.addEdge(s == poor ? 15 - poor : s, 1, 0);
            }
            check.is("one edge at state " + poor, x.isEncoder(1), 0);
            x.addEdge(poor, 1, 0);
            check.is("two edges at each state", x.isEncoder(1), 1);
        }
        check.is("without states", new ConstrainedCoder().isEncoder(1), 0);
    }

    private static void isEncoderOutOfRange(Check check) {
        for (int p : Calls.outside(1, 4)) {
            Effects.refusedEverywhere(check, "isEncoder(" + p + ")", x -> x.isEncoder(p), -3);
        }
        for (int p : new int[] {0, 5, 32, 33, 34, -31, -28}) {
            Effects.refused(check, () -> Calls.loops(64), "2^p wraps around", x -> x.isEncoder(p), -3);
        }
    }

    private static void startTellsTheEdges(Check check) {
        for (int edges = 2; edges <= 64; edges++) {
            check.is(edges + " loops", Calls.loops(edges).startEncoder(1, 0), edges);
        }
        ConstrainedCoder x = Calls.graph(1, 2, 0, 0, 0, 0, 1, 1, 1, 0, 0, 1, 1, 1, 1, 1, 0);
        check.is("startEncoder(1, 0)", x.startEncoder(1, 0), 2);
        check.is("startEncoder(1, 1)", x.startEncoder(1, 1), 3);
        Effects.changesOnly(check, Scene.WORKING, "startEncoder(1, 0)", y -> y.startEncoder(1, 0),
            Everything.ENCODER, Everything.ENCODER_START);
        Effects.changesOnly(check, Scene.FULL, "startEncoder(1, 15)", y -> y.startEncoder(1, 15),
            Everything.ENCODER, Everything.ENCODER_START);
    }

    private static void startWithWrongP(Check check) {
        for (int p : Calls.outside(1, 4)) {
            Effects.refusedEverywhere(check, "startEncoder(" + p + ", 0)", x -> x.startEncoder(p, 0), -3);
            Effects.refusedEverywhere(check, "startEncoder(" + p + ", 16)", x -> x.startEncoder(p, 16), -3);
        }
        for (int p : new int[] {32, 33, 34, -31, -28}) {
            Effects.refused(check, Scene.FULL, "2^p wraps around", x -> x.startEncoder(p, 0), -3);
        }
    }

    private static void startAtNoSuchState(Check check) {
        for (int start : Calls.outside(0, 15)) {
            Effects.refusedEverywhere(check, "startEncoder(1, " + start + ")", x -> x.startEncoder(1, start), -1);
            Effects.refusedEverywhere(check, "and no encoder", x -> x.startEncoder(4, start), -1);
        }
        Effects.refused(check, Scene.WORKING, "state 3 of 3", x -> x.startEncoder(1, 3), -1);
        Effects.refused(check, Scene.NEW, "without states", x -> x.startEncoder(1, 0), -1);
    }

    private static void startWithoutEncoder(Check check) {
        Effects.refused(check, Scene.WORKING, "startEncoder(2, 0)", x -> x.startEncoder(2, 0), -7);
        Effects.refused(check, Scene.WORKING, "enough edges at the start state only", x -> x.startEncoder(2, 1), -7);
        Effects.refused(check, Scene.FULL, "startEncoder(3, 0)", x -> x.startEncoder(3, 0), -7);
        Effects.refused(check, Scene.OFF, "startEncoder(1, 1)", x -> x.startEncoder(1, 1), -7);
        Effects.refused(check, Scene.DEAD_END, "startEncoder(1, 0)", x -> x.startEncoder(1, 0), -7);
        for (int p = 1; p <= 4; p++) {
            int number = p;
            int edges = 1 << p;
            check.is("2^" + p + " edges", Calls.loops(edges).startEncoder(p, 0), edges);
            Effects.refused(check, () -> Calls.loops(edges - 1), "one edge less", x -> x.startEncoder(number, 0), -7);
        }
    }

    private static void encodeTellsTheLabel(Check check) {
        for (int bits = 1; bits <= 4; bits++) {
            ConstrainedCoder x = CountingSentencesTest.allLabels(bits);
            x.startEncoder(bits, 0);
            for (int data = 0; data < 1 << bits; data++) {
                x.clearWord();
                check.is("encode(" + data + ")", x.encode(data), data);
                check.is("wordLength()", x.wordLength(), bits);
                for (int i = 0; i < bits; i++) {
                    check.is("wordBit(" + i + ")", x.wordBit(i), data >> bits - 1 - i & 1);
                }
            }
        }
        Effects.changesOnly(check, Scene.WORKING, "encode(1)", x -> x.encode(1), Everything.WORD, Everything.ENCODER);
    }

    private static void encodeWhenOff(Check check) {
        for (int data : new int[] {0, 1, -1, 2, 16, MIN, MAX}) {
            for (Scene scene : new Scene[] {Scene.NEW, Scene.OFF, Scene.DEAD_END}) {
                Effects.refused(check, scene, "encode(" + data + ") when " + scene, x -> x.encode(data), -7);
            }
            Effects.refused(check, EncoderSentencesTest::fullAndOff, "encode(" + data + "), full",
                x -> x.encode(data), -7);
        }
    }

    private static ConstrainedCoder fullAndOff() {
        ConstrainedCoder x = Scene.FULL.make();
        x.power(1);
        return x;
    }

    private static ConstrainedCoder started(int p) {
        ConstrainedCoder x = Calls.loops(64);
        x.startEncoder(p, 0);
        return x;
    }

    private static void noDataWords(Check check) {
        for (int p = 1; p <= 4; p++) {
            int number = p;
            int last = (1 << p) - 1;
            check.is("the first", started(p).encode(0), 0);
            check.is("the last", started(p).encode(last), 0);
            for (int data : Calls.outside(0, last)) {
                Effects.refused(check, () -> started(number), "encode(" + data + ") for " + p, x -> x.encode(data),
                    -3);
            }
        }
        for (int data : Calls.outside(0, 3)) {
            Effects.refused(check, Scene.FULL, "encode(" + data + "), full", x -> x.encode(data), -3);
        }
    }

    private static void wordsThatAreFull(Check check) {
        for (int data = 0; data < 4; data++) {
            int word = data;
            Effects.refused(check, Scene.FULL, "encode(" + data + ")", x -> x.encode(word), -4);
        }
        for (int bits = 1; bits <= 4; bits++) {
            int length = bits;
            for (int room = 0; room <= bits + 1; room++) {
                int written = 40 - room;
                if (room >= bits) {
                    ConstrainedCoder x = startedWithWord(bits, written);
                    check.is("room for " + room, x.encode(1), 1);
                    check.is("wordLength()", x.wordLength(), written + bits);
                } else {
                    Effects.refused(check, () -> startedWithWord(length, written), "room for " + room,
                        x -> x.encode(1), -4);
                }
            }
        }
    }

    /** Two states that lead to each other by the labels 0 and 1. */
    private static ConstrainedCoder startedWithWord(int labelLength, int written) {
        ConstrainedCoder x = Calls.graph(labelLength, 2, 0, 0, 1, 0, 1, 1, 1, 0, 0, 1, 1, 0);
        Calls.setWord(x, "10".repeat(20).substring(0, written));
        x.startEncoder(1, 0);
        return x;
    }

    private static void everyState(Check check) {
        ConstrainedCoder x = Calls.states(1, 16);
        for (int s = 0; s < 16; s++) {
            x.addEdge(s, 0, (s + 1) % 16);
            x.addEdge(s, 1, (s + 15) % 16);
        }
        for (int s = 0; s < 16; s++) {
            x.startEncoder(1, s);
            check.is("at first", x.encoderState(), s);
            x.encode(0);
            check.is("the next", x.encoderState(), (s + 1) % 16);
            x.encode(1);
            check.is("and back", x.encoderState(), s);
        }
        Effects.asks(check, "encoderState()", y -> y.encoderState());
    }

    private static void stateWhenOff(Check check) {
        for (Scene scene : new Scene[] {Scene.NEW, Scene.OFF, Scene.DEAD_END}) {
            Effects.refused(check, scene, "encoderState() when " + scene, x -> x.encoderState(), -7);
        }
        Effects.refused(check, EncoderSentencesTest::fullAndOff, "encoderState()", x -> x.encoderState(), -7);
    }

    /** From state 0 two chains of so many edges with the label 0, which end in different labels. */
    private static ConstrainedCoder chains(int steps) {
        ConstrainedCoder x = Calls.graph(1, 16, 0, 0, 1, 0, 0, 8);
        for (int i = 1; i < steps; i++) {
            x.addEdge(i, 0, i + 1);
            x.addEdge(i + 7, 0, i + 8);
        }
        x.addEdge(steps, 0, 0);
        x.addEdge(steps + 7, 1, 0);
        return x;
    }

    private static void anticipationsFromZeroToSix(Check check) {
        check.is("deterministic", Calls.runLength(0, 7).anticipation(), 0);
        for (int steps = 1; steps <= 6; steps++) {
            check.is("chains of " + steps, chains(steps).anticipation(), steps);
        }
        // Two chains that both end: no longer paths are left to tell them apart.
        for (int steps = 1; steps <= 6; steps++) {
            ConstrainedCoder x = Calls.states(1, 16);
            for (int i = 0; i < 2 * steps; i++) {
                x.addEdge(i < 2 ? 0 : i - 1, 1, i + 1);
            }
            check.is("paths that end after " + steps, x.anticipation(), steps);
        }
        Effects.asks(check, "anticipation()", x -> x.anticipation());
    }

    private static void noAnticipation(Check check) {
        check.is("chains of 7", chains(7).anticipation(), -5);
        check.is("two equal loops", Calls.loops(2).anticipation(), -5);
        check.is("64 equal loops", Calls.loops(64).anticipation(), -5);
        check.is("two loops, listed first", Calls.graph(1, 3, 1, 0, 1, 2, 0, 2, 0, 1, 1, 0, 1, 2).anticipation(), -5);
        check.is("two loops, listed first", Calls.graph(1, 3, 1, 0, 1, 2, 0, 2, 0, 1, 2, 0, 1, 1).anticipation(), -5);
        check.is("two loops, listed last", Calls.graph(1, 3, 0, 1, 1, 0, 1, 2, 1, 0, 1, 2, 0, 2).anticipation(), -5);
        check.is("at the last state", Calls.graph(1, 16, 15, 0, 15, 15, 0, 15).anticipation(), -5);
        Effects.refused(check, () -> chains(7), "anticipation()", x -> x.anticipation(), -5);
    }

    /** State 0 writes only zeros and state 1 only ones; the data word is the next state. */
    private static ConstrainedCoder delayed(int start, String word) {
        ConstrainedCoder x = Calls.graph(1, 2, 0, 0, 0, 0, 0, 1, 1, 1, 0, 1, 1, 1);
        x.startEncoder(1, start);
        Calls.setWord(x, word);
        return x;
    }

    private static void theEncoderThatWasStartedLast(Check check) {
        ConstrainedCoder x = Calls.graph(1, 1, 0, 0, 0, 0, 1, 0, 0, 1, 0, 0, 1, 0);
        x.startEncoder(2, 0);
        Calls.setWord(x, "1");
        check.is("p = 2: three edges of the label 1", x.decode(0), -5);
        x.startEncoder(1, 0);
        check.is("p = 1: one edge", x.decode(0), 1);
        check.is("a refused start", x.startEncoder(3, 0), -7);
        check.is("leaves p = 1", x.decode(0), 1);
        x.startEncoder(2, 0);
        check.is("p = 2 again", x.decode(0), -5);
    }

    private static void pathsFromTheStartState(Check check) {
        check.is("10 from 1", delayed(1, "10").decode(0), 0);
        check.is("10 from 0", delayed(0, "10").decode(0), -5);
        check.is("01 from 0", delayed(0, "01").decode(0), 1);
        ConstrainedCoder x = delayed(0, "");
        x.encode(1);
        check.is("encoderState()", x.encoderState(), 1);
        Calls.setWord(x, "01");
        check.is("from the start state, not from the current one", x.decode(0), 1);
        check.is("a refused start", x.startEncoder(1, 2), -1);
        check.is("leaves the start state", x.decode(0), 1);
        x.startEncoder(1, 1);
        check.is("from the new start state", x.decode(0), -5);
    }

    private static void allPathsAgree(Check check) {
        // Both edges of the label 0 lead on by 00; only the first one leads on by 01.
        ConstrainedCoder x = Calls.graph(1, 4, 0, 0, 1, 0, 0, 2, 1, 0, 3, 1, 1, 3, 2, 0, 3, 2, 0, 3, 3, 0, 3, 3, 1, 3);
        x.startEncoder(1, 0);
        Calls.setWord(x, "000");
        check.is("decode(0) of 000", x.decode(0), -5);
        check.is("decode(2) of 000, where all agree", x.decode(2), 0);
        Calls.setWord(x, "011");
        check.is("decode(0) of 011", x.decode(0), 0);
        check.is("decode(1) of 011", x.decode(1), 1);
        check.is("decode(2) of 011", x.decode(2), 1);
        Calls.setWord(x, "00");
        check.is("decode(1) of 00: 0 by state 1, 0 or 1 by state 2", x.decode(1), -5);
    }

    private static void pathsOfTheFirstEdges(Check check) {
        for (int p = 1; p <= 3; p++) {
            ConstrainedCoder x = CountingSentencesTest.allLabels(4);
            x.startEncoder(p, 0);
            for (int label = 0; label < 16; label++) {
                Calls.setWord(x, Integer.toBinaryString(16 + label).substring(1));
                check.is("label " + label + " for " + p, x.decode(0), label < 1 << p ? label : -5);
            }
        }
        // Labels 3, 1, 0, 1 in the order of the numbers: for p = 1 the last two of the order do not count.
        ConstrainedCoder mixed = Calls.graph(2, 2, 0, 3, 0, 0, 1, 0, 0, 0, 0, 0, 1, 1, 1, 2, 1, 1, 1, 1);
        mixed.startEncoder(1, 0);
        Calls.setWord(mixed, "01");
        check.is("the second edge of the label 1 does not count", mixed.decode(0), 1);
        Calls.setWord(mixed, "00");
        check.is("the label 0 is the first", mixed.decode(0), 0);
        Calls.setWord(mixed, "11");
        check.is("the label 3 is the last", mixed.decode(0), -5);
        // The edge that leads to state 1 comes third, by its number, and state 1 could write a 1 only.
        ConstrainedCoder y = Calls.graph(1, 2, 0, 0, 0, 0, 0, 0, 0, 0, 1, 1, 1, 1, 1, 1, 1);
        y.startEncoder(1, 0);
        Calls.setWord(y, "01");
        check.is("by the third edge only", y.decode(0), -5);
        check.is("by the third edge only", y.decode(1), -5);
        y.startEncoder(1, 1);
        Calls.setWord(y, "11");
        check.is("two equal edges", y.decode(0), -5);
    }

    private static void noSuchPath(Check check) {
        check.is("11 from 0", delayed(0, "11").decode(0), -5);
        check.is("11 from 0", delayed(0, "11").decode(1), -5);
        ConstrainedCoder x = Calls.graph(2, 1, 0, 0, 0, 0, 3, 0);
        x.startEncoder(1, 0);
        Calls.setWord(x, "0011");
        check.is("0011", x.decode(0), 0);
        Calls.setWord(x, "001110");
        for (int i = 0; i < 3; i++) {
            check.is("a label that no edge has, at the end", x.decode(i), -5);
        }
        Calls.setWord(x, "010011");
        for (int i = 0; i < 3; i++) {
            check.is("a label that no edge has, at the beginning", x.decode(i), -5);
        }
    }

    private static void everyDataWord(Check check) {
        for (int bits = 1; bits <= 4; bits++) {
            ConstrainedCoder x = CountingSentencesTest.allLabels(bits);
            x.startEncoder(bits, 0);
            int labels = 40 / bits;
            for (int i = 0; i < labels; i++) {
                x.encode(i * 5 % (1 << bits));
            }
            for (int i = 0; i < labels; i++) {
                check.is("decode(" + i + ")", x.decode(i), i * 5 % (1 << bits));
            }
        }
        Effects.asks(check, "decode(0)", x -> x.decode(0));
        Effects.asks(check, "decode(3)", x -> x.decode(3));
    }

    private static void decodeWhenOff(Check check) {
        for (int index : new int[] {0, 1, -1, 2, 40, MIN, MAX}) {
            for (Scene scene : new Scene[] {Scene.NEW, Scene.OFF, Scene.DEAD_END}) {
                Effects.refused(check, scene, "decode(" + index + ") when " + scene, x -> x.decode(index), -7);
            }
            Effects.refused(check, EncoderSentencesTest::fullAndOff, "decode(" + index + ")", x -> x.decode(index),
                -7);
        }
    }

    private static void noWholeLabels(Check check) {
        for (int bits = 2; bits <= 4; bits++) {
            int length = bits;
            for (int written = 1; written <= 40; written++) {
                int end = written;
                if (written % bits == 0) {
                    check.is(written + " bits of " + bits, withZeros(bits, written).decode(0), 0);
                } else {
                    Effects.refused(check, () -> withZeros(length, end), written + " bits of " + bits,
                        x -> x.decode(0), -5);
                }
            }
        }
    }

    private static ConstrainedCoder withZeros(int labelLength, int written) {
        ConstrainedCoder x = CountingSentencesTest.allLabels(labelLength);
        x.startEncoder(1, 0);
        Calls.setWord(x, "0".repeat(written));
        return x;
    }

    private static void noIndexOfALabel(Check check) {
        for (int bits = 1; bits <= 4; bits++) {
            int length = bits;
            for (int labels : new int[] {0, 1, 2, 40 / bits}) {
                int written = labels * bits;
                for (int index : Calls.outside(0, Math.max(0, labels - 1))) {
                    check.is("decode(" + index + ") of " + labels, withZeros(length, written).decode(index), -5);
                }
                Effects.refused(check, () -> withZeros(length, written), "decode(" + labels + ") of " + labels,
                    x -> x.decode(labels), -5);
                Effects.refused(check, () -> withZeros(length, written), "decode(-1) of " + labels,
                    x -> x.decode(-1), -5);
                if (labels > 0) {
                    check.is("the last label", withZeros(bits, written).decode(labels - 1), 0);
                }
            }
            // These indexes times the label length wrap around to a place in the word.
            for (int index : new int[] {1 << 30, 1 << 31, (1 << 31) + 1, 3 << 30, 1431655766}) {
                check.is("decode(" + index + ")", withZeros(bits, 40 / bits * bits).decode(index), -5);
            }
        }
    }

    private static void notDetermined(Check check) {
        Effects.refused(check, () -> delayed(0, "0"), "the last data word is open", x -> x.decode(0), -5);
        Effects.refused(check, () -> delayed(0, "0011"), "the last data word is open", x -> x.decode(3), -5);
        for (int i = 0; i < 3; i++) {
            check.is("decode(" + i + ") of 0011", delayed(0, "0011").decode(i), "011".charAt(i) - '0');
        }
        ConstrainedCoder x = started(4);
        x.encode(15);
        check.is("sixteen equal edges", x.decode(0), -5);
    }
}
