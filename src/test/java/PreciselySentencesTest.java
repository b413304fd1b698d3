/** The sentences of the paragraph 'More precisely', each with a test of its own. */
final class PreciselySentencesTest {
    private PreciselySentencesTest() {
    }

    static void run(Sentences sentences) {
        sentences.section("More precisely");
        sentences.test("power numbers the edges anew, also for 1.", PreciselySentencesTest::powerOne);
        sentences.test("A loop edge counts for splitting, and its copy starts where it starts then.",
            PreciselySentencesTest::loopsInSplits);
        sentences.test("If the length of a word is no multiple of the length of the labels, firstViolation tells the "
            + "greatest number of whole labels from the beginning on that are generated",
            PreciselySentencesTest::wholeLabels);
        sentences.test("of the empty word it is NONE.", PreciselySentencesTest::violationOfTheEmptyWord);
        sentences.test("countWords is 0 if there would be more ones than bits", PreciselySentencesTest::moreOnesThanBits);
        sentences.test("with 0 labels there is the empty word.", PreciselySentencesTest::noLabels);
        sentences.test("Whether a graph is deterministic is asked of all of it.", PreciselySentencesTest::allOfTheGraph);
        sentences.test("A negative rank has no word", PreciselySentencesTest::negativeRanks);
        sentences.test("the rank of the empty word is 0.", PreciselySentencesTest::rankOfTheEmptyWord);
        sentences.test("Without states, no eigenvector is found", PreciselySentencesTest::vectorWithoutStates);
        sentences.test("a state without edges gets 0 in it.", PreciselySentencesTest::vectorWithoutEdges);
        sentences.test("If m becomes 0.0 in growthRate, that is told.", PreciselySentencesTest::growthOfNothing);
        sentences.test("startEncoder begins anew, if it is on already", PreciselySentencesTest::startingAnew);
        sentences.test("the first 2^p edges by labels and numbers count.", PreciselySentencesTest::theFirstEdges);
        sentences.test("decode reads whatever is in the word", PreciselySentencesTest::whateverIsInTheWord);
        sentences.test("a data word is determined if all such paths agree there.", PreciselySentencesTest::pathsAgree);
        sentences.test("A state without paths has any anticipation", PreciselySentencesTest::statesWithoutPaths);
        sentences.test("a graph without edges has 0", PreciselySentencesTest::graphsWithoutEdges);
        sentences.test("and two edges of the same start, label and end are different first edges.",
            PreciselySentencesTest::differentFirstEdges);
        sentences.test("With BAD_VALUE, the graph, the word and the encoder stay, and the input is empty.",
            PreciselySentencesTest::parsedOutOfRange);
        sentences.test("One state without edges is irreducible.", PreciselySentencesTest::oneStateWithoutEdges);
        sentences.test("firstDifference compares the elements that an array has.",
            PreciselySentencesTest::theElementsThatThereAre);
        sentences.test("The snapshot holds neither the encoder nor the input nor the arrays.",
            PreciselySentencesTest::whatTheSnapshotLeavesOut);
        sentences.test("clear leaves the word", PreciselySentencesTest::clearLeavesTheWord);
        sentences.test("and the balance of the empty word is 0.", PreciselySentencesTest::balanceOfTheEmptyWord);
    }

    private static void powerOne(Check check) {
        ConstrainedCoder x = Calls.graph(1, 3, 2, 0, 1, 0, 1, 2, 1, 1, 1, 0, 0, 0, 2, 1, 0);
        check.is("power(1)", x.power(1), 5);
        check.text("graph", Calls.graphText(x), "1/3: 0-1-2 0-0-0 1-1-1 2-0-1 2-1-0");
        check.is("power(1) again", x.power(1), 5);
        check.text("graph", Calls.graphText(x), "1/3: 0-1-2 0-0-0 1-1-1 2-0-1 2-1-0");
        ConstrainedCoder four = Calls.graph(4, 2, 1, 15, 0, 0, 8, 1);
        check.is("power(1) of 4 bits", four.power(1), 2);
        check.text("graph", Calls.graphText(four), "4/2: 0-8-1 1-15-0");
    }

    private static void loopsInSplits(Check check) {
        for (int mask = 1; mask <= 2; mask++) {
            ConstrainedCoder x = Calls.graph(1, 1, 0, 0, 0, 0, 1, 0);
            check.is("split(0, " + mask + ")", x.split(0, mask), 1);
            int first = mask == 1 ? 0 : 1;
            check.text("graph", Calls.graphText(x), "1/2: " + first + "-0-0 " + (1 - first) + "-1-0 " + first + "-0-1 "
                + (1 - first) + "-1-1");
        }
        check.is("32 loops, which are 64 edges then", Calls.loops(32).split(0, 1), 1);
        check.is("33 loops, which would be 66", Calls.loops(33).split(0, 1), -4);
    }

    private static void wholeLabels(Check check) {
        for (int bits = 2; bits <= 4; bits++) {
            for (int length = 1; length <= 40; length++) {
                if (length % bits != 0) {
                    ConstrainedCoder x = Calls.graph(bits, 2, 0, 0, 0, 0, 1, 1);
                    Calls.setWord(x, "0".repeat(length));
                    check.is(length + " zeros of " + bits, x.firstViolation(0), length / bits);
                    check.is("from a state without edges", x.firstViolation(1), 0);
                }
            }
        }
        ConstrainedCoder x = Calls.graph(3, 2, 0, 5, 1, 1, 6, 0);
        Calls.setWord(x, "1011100");
        check.is("101, 110 and a rest", x.firstViolation(0), 2);
        Calls.setWord(x, "1011110");
        check.is("101, a wrong label and a rest", x.firstViolation(0), 1);
        Calls.setWord(x, "10");
        check.is("a rest alone", x.firstViolation(0), 0);
    }

    private static void violationOfTheEmptyWord(Check check) {
        for (int bits = 1; bits <= 4; bits++) {
            check.is("a state without edges", Calls.states(bits, 1).firstViolation(0), -5);
            check.is("a state with edges", Calls.graph(bits, 2, 0, 1, 1).firstViolation(0), -5);
        }
        ConstrainedCoder x = Calls.runLength(1, 3);
        Calls.setWord(x, "11");
        x.clearWord();
        check.is("after clearWord", x.firstViolation(0), -5);
        check.is("without states there is none that generates it", new ConstrainedCoder().firstViolation(0), -1);
    }

    private static void moreOnesThanBits(Check check) {
        for (int bits = 1; bits <= 4; bits++) {
            for (int labels = 0; labels <= 10; labels++) {
                ConstrainedCoder x = CountingSentencesTest.allLabels(bits);
                check.is("as many", x.countWords(0, labels, bits * labels), 1);
                check.is("one more", x.countWords(0, labels, bits * labels + 1), 0);
                for (int ones : new int[] {40 + bits, 41, 64, 256, 65536, 1 << 30, Integer.MAX_VALUE}) {
                    check.is(ones + " ones", x.countWords(0, labels, ones), 0);
                }
            }
        }
        ConstrainedCoder last = Calls.states(4, 16);
        for (int state = 0; state < 16; state++) {
            last.addEdge(state, 15, 15 - state);
            last.addEdge(state, 0, state);
        }
        for (int state = 0; state < 16; state++) {
            check.is("40 ones from state " + state, last.countWords(state, 10, 40), 1);
            for (int ones = 41; ones <= 46; ones++) {
                check.is(ones + " ones from state " + state, last.countWords(state, 10, ones), 0);
            }
        }
    }

    private static void noLabels(Check check) {
        for (int bits = 1; bits <= 4; bits++) {
            ConstrainedCoder x = Calls.graph(bits, 2, 0, 1, 1);
            for (int state = 0; state < 2; state++) {
                check.is("any number of ones", x.countWords(state, 0, -1), 1);
                check.is("no ones", x.countWords(state, 0, 0), 1);
                check.is("one one", x.countWords(state, 0, 1), 0);
                Calls.setWord(x, "1");
                check.is("unrank", x.unrank(state, 0, -1, 0), 0);
                check.is("wordLength()", x.wordLength(), 0);
                check.is("unrank of no ones", x.unrank(state, 0, 0, 0), 0);
                check.is("rank 1", x.unrank(state, 0, -1, 1), -5);
            }
        }
    }

    private static void allOfTheGraph(Check check) {
        // The last of sixteen states has two equal labels, and no other state leads there.
        ConstrainedCoder x = Calls.states(1, 16);
        x.addEdge(0, 0, 0);
        x.addEdge(15, 1, 0);
        x.addEdge(15, 1, 15);
        Calls.setWord(x, "00");
        check.is("countWords(0, 2, -1)", x.countWords(0, 2, -1), -6);
        check.is("countWords(0, 0, -1)", x.countWords(0, 0, -1), -6);
        check.is("unrank(0, 2, -1, 0)", x.unrank(0, 2, -1, 0), -6);
        check.is("rank(0, 0)", x.rank(0, 0), -6);
        check.is("isDeterministic()", x.isDeterministic(), 0);
        x.removeEdge(2);
        check.is("countWords(0, 2, -1) then", x.countWords(0, 2, -1), 1);
        check.is("unrank(0, 2, -1, 0) then", x.unrank(0, 2, -1, 0), 2);
        check.is("rank(0, 0) then", x.rank(0, 0), 0);
    }

    private static void negativeRanks(Check check) {
        for (long rank : new long[] {-1, -2, -4, -256, Integer.MIN_VALUE, -(1L << 32), 3 - (1L << 32), -(1L << 40),
            Long.MIN_VALUE, Long.MIN_VALUE + 3}) {
            Effects.refused(check, Scene.OFF, "rank " + rank, x -> x.unrank(0, 4, -1, rank), -5);
            Effects.refused(check, Scene.OFF, "rank " + rank + " of two ones", x -> x.unrank(0, 4, 2, rank), -5);
            Effects.refused(check, Scene.OFF, "rank " + rank + " of no labels", x -> x.unrank(0, 0, -1, rank), -5);
        }
    }

    private static void rankOfTheEmptyWord(Check check) {
        for (Scene scene : new Scene[] {Scene.DETERMINISTIC, Scene.FULL, Scene.OFF, Scene.DEAD_END}) {
            ConstrainedCoder x = scene.make();
            x.clearWord();
            for (int state = 0; state < x.stateCount(); state++) {
                check.is("rank(" + state + ", 0)", x.rank(state, 0), 0);
                check.is("rank(" + state + ", 1)", x.rank(state, 1), 0);
            }
        }
    }

    private static void vectorWithoutStates(Check check) {
        for (int p = 1; p <= 4; p++) {
            ConstrainedCoder x = Calls.loops(64);
            check.is("before", x.eigenvectorBound(p), 1);
            x.clear(1);
            check.is("eigenvectorBound(" + p + ")", x.eigenvectorBound(p), -5);
            check.is("eigenvectorElement(" + p + ", 0)", x.eigenvectorElement(p, 0), -1);
            check.is("of a new object", new ConstrainedCoder().eigenvectorBound(p), -5);
        }
    }

    private static void vectorWithoutEdges(Check check) {
        for (int p = 1; p <= 4; p++) {
            ConstrainedCoder x = Calls.loops(1 << p);
            for (int state = 1; state < 16; state++) {
                x.addState();
                check.is("eigenvectorElement(" + p + ", " + state + ")", x.eigenvectorElement(p, state), 0);
                check.is("eigenvectorElement(" + p + ", 0)", x.eigenvectorElement(p, 0), 1);
            }
            check.is("eigenvectorBound(" + p + ")", x.eigenvectorBound(p), 1);
            check.is("no edges at all", Calls.states(1, 16).eigenvectorBound(p), -5);
        }
    }

    private static void growthOfNothing(Check check) {
        for (int iterations = 1; iterations <= 100; iterations++) {
            check.is("states without edges", Calls.states(1, 16).growthRate(iterations), 0);
            check.is("one edge", Calls.graph(1, 2, 0, 0, 1).growthRate(iterations),
                iterations == 1 ? Double.doubleToLongBits(1.0) : 0);
            check.is("two edges", Calls.graph(1, 3, 1, 0, 2, 0, 0, 1).growthRate(iterations),
                iterations <= 2 ? Double.doubleToLongBits(1.0) : 0);
        }
    }

    private static void startingAnew(Check check) {
        ConstrainedCoder x = Calls.graph(1, 2, 0, 0, 1, 0, 1, 0, 1, 0, 0, 1, 1, 1, 0, 1, 1, 0, 1, 0, 1, 0, 0, 1, 1, 1);
        check.is("startEncoder(2, 0)", x.startEncoder(2, 0), 4);
        check.is("encode(0)", x.encode(0), 0);
        check.is("encoderState()", x.encoderState(), 1);
        check.is("startEncoder(2, 0)", x.startEncoder(2, 0), 4);
        check.is("at the start state again", x.encoderState(), 0);
        check.is("encode(3)", x.encode(3), 1);
        check.is("startEncoder(1, 1)", x.startEncoder(1, 1), 4);
        check.is("at another one", x.encoderState(), 1);
        check.is("for another p", x.encode(2), -3);
        check.is("the word stays", x.wordLength(), 2);
        check.is("encode(1)", x.encode(1), 0);
        check.is("startEncoder(2, 1)", x.startEncoder(2, 1), 4);
        check.is("for the first p again", x.encode(2), 1);
        check.is("a refused start", x.startEncoder(3, 0), -7);
        check.is("begins nothing anew", x.encode(2), 1);
    }

    private static void theFirstEdges(Check check) {
        // Labels 3, 1, 2, 0, 1 in the order of the numbers; for p = 1 those of 0 and of the first 1 count.
        ConstrainedCoder x = Calls.graph(2, 2, 0, 3, 0, 0, 1, 0, 0, 2, 0, 0, 0, 0, 0, 1, 1, 1, 1, 1, 1, 1, 1, 1, 1, 1, 1, 1, 1);
        x.startEncoder(1, 0);
        check.is("encode(0)", x.encode(0), 0);
        check.is("encode(1)", x.encode(1), 1);
        check.is("by the first edge of the label 1", x.encoderState(), 0);
        check.is("decode(1), one edge of the label 1", x.decode(1), 1);
        check.is("encode(2)", x.encode(2), -3);
        Calls.setWord(x, "10");
        check.is("decode(0) of the label 2", x.decode(0), -5);
        x.startEncoder(2, 0);
        check.is("decode(0) of the label 2 for 2", x.decode(0), 3);
        Calls.setWord(x, "01");
        check.is("decode(0), two edges of the label 1 for 2", x.decode(0), -5);
        Calls.setWord(x, "11");
        check.is("decode(0), the fifth edge", x.decode(0), -5);
    }

    private static void whateverIsInTheWord(Check check) {
        ConstrainedCoder x = CountingSentencesTest.allLabels(2);
        Calls.setWord(x, "1101");
        x.startEncoder(2, 0);
        check.is("written before the start", x.decode(0), 3);
        check.is("written before the start", x.decode(1), 1);
        x.encode(2);
        check.is("encoded", x.decode(2), 2);
        x.invert(2);
        check.is("inverted", x.decode(0), 0);
        x.appendBit(1);
        check.is("half a label more", x.decode(0), -5);
        x.appendBit(1);
        check.is("appended", x.decode(3), 3);
        x.unrank(0, 2, -1, 11);
        check.is("unranked", x.decode(0), 2);
        check.is("unranked", x.decode(1), 3);
        x.balance();
        check.is("balanced", x.decode(0), 0);
        x.clearWord();
        check.is("cleared", x.decode(0), -5);
        check.is("the encoder has not moved back or on", x.encoderState(), 0);
    }

    private static void pathsAgree(Check check) {
        // From state 0 the label 0 leads to 1 and to 2; both write 1 by their second edge, and 0 by their first.
        ConstrainedCoder x = Calls.graph(1, 3, 0, 0, 1, 0, 0, 2, 1, 0, 0, 1, 1, 0, 2, 0, 0, 2, 1, 0);
        x.startEncoder(1, 0);
        for (int word = 0; word < 2; word++) {
            Calls.setWord(x, "0" + word);
            check.is("which of the two is open", x.decode(0), -5);
            check.is("the next one is the same for both", x.decode(1), word);
        }
        Calls.setWord(x, "0010");
        check.is("decode(2) of 0010, where no path leads", x.decode(2), -5);
        Calls.setWord(x, "0100");
        check.is("decode(0) of 0100", x.decode(0), -5);
        check.is("decode(1) of 0100", x.decode(1), 1);
        check.is("decode(2) of 0100", x.decode(2), -5);
        check.is("decode(3) of 0100", x.decode(3), 0);
    }

    private static void statesWithoutPaths(Check check) {
        ConstrainedCoder x = Calls.graph(1, 2, 0, 0, 0, 0, 0, 1);
        check.is("one of two edges ends", x.anticipation(), 1);
        ConstrainedCoder y = Calls.charge(2);
        for (int s = 5; s < 16; s++) {
            check.is("addState()", y.addState(), s);
        }
        check.is("states without edges beside a deterministic graph", y.anticipation(), 0);
        ConstrainedCoder z = Calls.graph(1, 4, 0, 0, 1, 0, 0, 2, 1, 1, 3);
        check.is("paths of two edges there are", z.anticipation(), 1);
        // One of two edges of the same label leads to a loop, the other one to an end, which is any of the states.
        check.is("state 0 is the end", Calls.graph(1, 3, 2, 1, 0, 2, 1, 1, 1, 0, 1).anticipation(), 1);
        check.is("state 0 is the end", Calls.graph(1, 3, 2, 1, 1, 2, 1, 0, 1, 0, 1).anticipation(), 1);
        check.is("state 2 is the end", Calls.graph(1, 3, 1, 0, 1, 0, 1, 1, 0, 1, 2).anticipation(), 1);
        check.is("state 2 is the end", Calls.graph(1, 3, 1, 0, 1, 0, 1, 2, 0, 1, 1).anticipation(), 1);
    }

    private static void graphsWithoutEdges(Check check) {
        for (int states = 0; states <= 16; states++) {
            check.is(states + " states", Calls.states(1, states).anticipation(), 0);
        }
        ConstrainedCoder x = Calls.loops(2);
        x.removeEdge(0);
        x.removeEdge(0);
        check.is("after removals", x.anticipation(), 0);
    }

    private static void differentFirstEdges(Check check) {
        check.is("two equal loops", Calls.graph(1, 1, 0, 1, 0, 0, 1, 0).anticipation(), -5);
        check.is("two equal edges to an end", Calls.graph(1, 2, 0, 1, 1, 0, 1, 1).anticipation(), 1);
        check.is("and one edge more", Calls.graph(1, 3, 0, 1, 1, 0, 1, 1, 1, 0, 2).anticipation(), 2);
        check.is("two equal edges of the second state", Calls.graph(1, 2, 0, 0, 1, 1, 0, 1, 1, 0, 1).anticipation(),
            -5);
        ConstrainedCoder x = Calls.graph(1, 1, 0, 1, 0, 0, 1, 0);
        x.startEncoder(1, 0);
        x.encode(0);
        check.is("they have different data words", x.decode(0), -5);
    }

    private static void parsedOutOfRange(Check check) {
        for (String text : new String[] {"rll 3 1", "rll 0 8", "charge 0", "charge 8"}) {
            ConstrainedCoder x = Scene.WORKING.make();
            String graph = Calls.graphText(x);
            x.parseConstraint();
            int state = x.encoderState();
            check.is(text, Calls.parse(x, text), -3);
            check.text("the graph", Calls.graphText(x), graph);
            check.text("the word", Calls.word(x), "01100100");
            check.is("the encoder's state", x.encoderState(), state);
            check.is("the encoder's step", x.encode(1), 0);
            check.is("the input", x.parseConstraint(), -100);
            check.is("a text then", Calls.parse(x, "rll 0 0"), 1);
        }
    }

    private static void oneStateWithoutEdges(Check check) {
        for (int bits = 1; bits <= 4; bits++) {
            check.is("of " + bits + " bits", Calls.states(bits, 1).isIrreducible(), 1);
            check.is("two states without edges", Calls.states(bits, 2).isIrreducible(), 0);
        }
        ConstrainedCoder x = Calls.loops(1);
        x.removeEdge(0);
        check.is("after a removal", x.isIrreducible(), 1);
    }

    private static void theElementsThatThereAre(Check check) {
        ConstrainedCoder x = Calls.graph(1, 3, 0, 0, 0, 0, 1, 0, 1, 0, 0, 1, 1, 0, 2, 0, 0, 2, 1, 0);
        for (int length = 0; length <= 20; length++) {
            x.newArray(0, length);
            for (int i = 0; i < length; i++) {
                check.is("setElement(0, " + i + ", 1)", x.setElement(0, i, i < 3 ? 1 : 0), 0);
            }
            check.is("ones, " + length, x.firstDifference(0, 1), length <= 3 ? -5 : 3);
        }
        x.newArray(0, 2);
        x.setElement(0, 0, 1);
        check.is("1 and 0 of three ones", x.firstDifference(0, 1), 1);
        x.newArray(0, 1);
        check.is("0 of three ones", x.firstDifference(0, 1), 0);
        x.newArray(0, 0);
        check.is("nothing of three ones", x.firstDifference(0, 1), -5);
    }

    private static void whatTheSnapshotLeavesOut(Check check) {
        ConstrainedCoder x = Calls.loops(2);
        x.startEncoder(1, 0);
        Calls.type(x, "rll 0 ");
        x.newArray(0, 2);
        x.setElement(0, 1, 5);
        x.saveSnapshot();
        check.is("saving leaves the encoder on", x.encoderState(), 0);
        check.is("saving leaves the input", x.appendCharacter('2'), 7);
        x.setElement(0, 1, 6);
        x.newArray(2, 1);
        check.is("restoreSnapshot()", x.restoreSnapshot(), 1);
        check.is("the encoder is not there again", x.encoderState(), -7);
        check.is("the element is the later one", x.element(0, 1), 6);
        check.is("the later array is there", x.element(2, 0), 0);
        check.is("slot 1 is empty", x.element(1, 0), -10);
        check.is("the input is the later one", x.parseConstraint(), 3);
    }

    private static void clearLeavesTheWord(Check check) {
        String forty = "1001".repeat(10);
        for (int bits = 1; bits <= 4; bits++) {
            ConstrainedCoder x = Calls.runLength(0, 3);
            Calls.setWord(x, forty);
            check.is("clear(" + bits + ")", x.clear(bits), 7);
            check.text("the word", Calls.word(x), forty);
        }
        Effects.changesOnly(check, Scene.WORKING, "clear(3)", x -> x.clear(3), Everything.GRAPH, Everything.ENCODER,
            Everything.ENCODER_START);
        Effects.changesOnly(check, Scene.FULL, "clear(1)", x -> x.clear(1), Everything.GRAPH, Everything.ENCODER,
            Everything.ENCODER_START);
    }

    private static void balanceOfTheEmptyWord(Check check) {
        for (Scene scene : Scene.values()) {
            ConstrainedCoder x = scene.make();
            x.clearWord();
            check.is("balance() when " + scene, x.balance(), 0);
            check.is("wordLength()", x.wordLength(), 0);
        }
    }
}
