/** The sentences of promises 1 to 17 that name a boundary or a refusal, each with a test of its own. */
final class GraphSentencesTest {
    private static final int MIN = Integer.MIN_VALUE;
    private static final int MAX = Integer.MAX_VALUE;

    private GraphSentencesTest() {
    }

    static void run(Sentences sentences) {
        sentences.section("Promise 1: A new object");
        sentences.test("Creates an object with an empty graph, an empty current word, an empty input, empty slots and no "
            + "encoder.", GraphSentencesTest::aNewObjectIsEmpty);
        sentences.section("Promise 2: loadRunLength");
        sentences.test("Returns the number of states", GraphSentencesTest::runLengthsTellTheirStates);
        sentences.test("BAD_VALUE unless 0 <= d <= k <= 7.", GraphSentencesTest::runLengthsOutOfRange);
        sentences.section("Promise 3: loadCharge");
        sentences.test("`c`: the limit, 1 to 7", GraphSentencesTest::chargesFromOneToSeven);
        sentences.test("BAD_VALUE if c is out of range.", GraphSentencesTest::chargesOutOfRange);
        sentences.section("Promise 4: clear");
        sentences.test("`labelLength`: the label length, 1 to 4", GraphSentencesTest::clearToEachLength);
        sentences.test("Returns the number of edges that the graph had", GraphSentencesTest::clearTellsTheEdges);
        sentences.test("BAD_VALUE if labelLength is out of range.", GraphSentencesTest::clearOutOfRange);
        sentences.section("Promise 5: addState");
        sentences.test("Returns the number of the new state", GraphSentencesTest::statesAreNumberedFromZero);
        sentences.test("FULL if there are already 16 states.", GraphSentencesTest::aSeventeenthState);
        sentences.section("Promise 6: addEdge");
        sentences.test("Returns the number of the new edge", GraphSentencesTest::edgesAreNumberedFromZero);
        sentences.test("NO_SUCH_STATE if from or to does not exist (checked first)",
            GraphSentencesTest::edgesWithoutStates);
        sentences.test("BAD_VALUE if label is negative or has more bits than the label length (checked second)",
            GraphSentencesTest::edgesWithWrongLabels);
        sentences.test("FULL if there are already 64 edges.", GraphSentencesTest::aSixtyFifthEdge);
        sentences.section("Promise 7: removeEdge");
        sentences.test("The numbers of all later edges decrease by 1.", GraphSentencesTest::laterEdgesMoveDown);
        sentences.test("Returns the number of edges that remain", GraphSentencesTest::removeEdgeTellsTheRest);
        sentences.test("NO_SUCH_EDGE.", GraphSentencesTest::removeNoSuchEdge);
        runQuestions(sentences);
        runPowersAndSplits(sentences);
        sentences.section("Promise 16: isDeterministic");
        sentences.test("Returns 1 if it is, otherwise 0.", GraphSentencesTest::deterministicOrNot);
        sentences.section("Promise 17: isIrreducible");
        sentences.test("it has at least one state", GraphSentencesTest::withoutStatesItIsReducible);
        sentences.test("a path, which may be without edges,", GraphSentencesTest::thePathWithoutEdges);
        sentences.test("leads from every state to every state.", GraphSentencesTest::fromEveryStateToEveryState);
        sentences.test("Returns 1 if it is, otherwise 0.", GraphSentencesTest::irreducibleOrNot);
    }

    private static void runQuestions(Sentences sentences) {
        sentences.section("Promise 8: stateCount");
        sentences.test("Returns 0 to 16.", GraphSentencesTest::zeroToSixteenStates);
        sentences.section("Promise 9: edgeCount");
        sentences.test("Returns 0 to 64.", GraphSentencesTest::zeroToSixtyFourEdges);
        sentences.section("Promise 10: labelLength");
        sentences.test("Returns 1 to 4.", GraphSentencesTest::oneToFourBits);
        sentences.section("Promise 11: edgeStart");
        sentences.test("Returns the start state", GraphSentencesTest::startsOfTheFirstAndTheLastEdge);
        sentences.test("NO_SUCH_EDGE.", check -> noSuchEdge(check, "edgeStart", 0));
        sentences.section("Promise 12: edgeLabel");
        sentences.test("Returns the label", GraphSentencesTest::labelsOfTheFirstAndTheLastEdge);
        sentences.test("NO_SUCH_EDGE.", check -> noSuchEdge(check, "edgeLabel", 1));
        sentences.section("Promise 13: edgeEnd");
        sentences.test("Returns the end state", GraphSentencesTest::endsOfTheFirstAndTheLastEdge);
        sentences.test("NO_SUCH_EDGE.", check -> noSuchEdge(check, "edgeEnd", 2));
    }

    private static void runPowersAndSplits(Sentences sentences) {
        sentences.section("Promise 14: power");
        sentences.test("`q`: the exponent, 1 to 4", GraphSentencesTest::exponentsFromOneToFour);
        sentences.test("Returns the new number of edges", GraphSentencesTest::powerTellsTheEdges);
        sentences.test("BAD_VALUE if q is out of range", GraphSentencesTest::exponentsOutOfRange);
        sentences.test("or the new label length would be greater than 4 (checked first)",
            GraphSentencesTest::powersWithTooLongLabels);
        sentences.test("FULL if there would be more than 64 edges.", GraphSentencesTest::powersWithTooManyEdges);
        sentences.section("Promise 15: split");
        sentences.test("Returns the number of the new state", GraphSentencesTest::splitTellsTheNewState);
        sentences.test("NO_SUCH_STATE (checked first)", GraphSentencesTest::splitNoSuchState);
        sentences.test("BAD_VALUE if the state has fewer than 2 edges", GraphSentencesTest::splitFewEdges);
        sentences.test("or mask is less than 1", GraphSentencesTest::splitSmallMasks);
        sentences.test("or mask is greater than 2^m - 2, where m is the number of edges of the state",
            GraphSentencesTest::splitGreatMasks);
        sentences.test("but at most 30 (checked second)", GraphSentencesTest::splitMasksOfManyEdges);
        sentences.test("FULL if there are already 16 states", GraphSentencesTest::splitOfSixteenStates);
        sentences.test("or there would be more than 64 edges.", GraphSentencesTest::splitToTooManyEdges);
    }

    private static void aNewObjectIsEmpty(Check check) {
        check.text("graph", Calls.graphText(new ConstrainedCoder()), "1/0:");
        check.is("edgeStart(0)", new ConstrainedCoder().edgeStart(0), -2);
        check.is("wordLength()", new ConstrainedCoder().wordLength(), 0);
        check.is("wordBit(0)", new ConstrainedCoder().wordBit(0), -5);
        check.is("the first character", new ConstrainedCoder().appendCharacter('c'), 1);
        check.is("the parsed input", new ConstrainedCoder().parseConstraint(), -100);
        for (int slot = 0; slot < 3; slot++) {
            check.is("element(" + slot + ", 0)", new ConstrainedCoder().element(slot, 0), -10);
        }
        check.is("encoderState()", new ConstrainedCoder().encoderState(), -7);
        ConstrainedCoder used = Scene.FULL.make();
        check.text("one beside a full one", Everything.allOf(Scene.NEW), Everything.allOf(ConstrainedCoder::new));
        check.is("the full one", used.stateCount(), 16);
    }

    private static void runLengthsTellTheirStates(Check check) {
        for (int k = 0; k <= 7; k++) {
            for (int d = 0; d <= k; d++) {
                check.is("loadRunLength(" + d + ", " + k + ")", new ConstrainedCoder().loadRunLength(d, k), k + 1);
            }
        }
        Effects.changesOnly(check, Scene.WORKING, "loadRunLength(0, 0)", x -> x.loadRunLength(0, 0), Everything.GRAPH,
            Everything.ENCODER, Everything.ENCODER_START);
        Effects.changesOnly(check, Scene.FULL, "loadRunLength(7, 7)", x -> x.loadRunLength(7, 7), Everything.GRAPH,
            Everything.ENCODER, Everything.ENCODER_START);
    }

    private static void runLengthsOutOfRange(Check check) {
        for (int d = -3; d <= 9; d++) {
            for (int k = -3; k <= 9; k++) {
                boolean right = 0 <= d && d <= k && k <= 7;
                ConstrainedCoder x = Calls.runLength(2, 4);
                check.is("loadRunLength(" + d + ", " + k + ")", x.loadRunLength(d, k), right ? k + 1 : -3);
                check.is("states then", x.stateCount(), right ? k + 1 : 5);
            }
        }
        for (int wrong : Calls.outside(0, 7)) {
            Effects.refusedEverywhere(check, "loadRunLength(" + wrong + ", 7)", x -> x.loadRunLength(wrong, 7), -3);
            Effects.refusedEverywhere(check, "loadRunLength(0, " + wrong + ")", x -> x.loadRunLength(0, wrong), -3);
            Effects.refused(check, Scene.WORKING, "both " + wrong, x -> x.loadRunLength(wrong, wrong), -3);
        }
        Effects.refusedEverywhere(check, "loadRunLength(1, 0)", x -> x.loadRunLength(1, 0), -3);
        Effects.refusedEverywhere(check, "loadRunLength(7, 6)", x -> x.loadRunLength(7, 6), -3);
        Effects.refused(check, Scene.WORKING, "the whole range", x -> x.loadRunLength(MIN, MAX), -3);
    }

    private static void chargesFromOneToSeven(Check check) {
        for (int c = 1; c <= 7; c++) {
            ConstrainedCoder x = new ConstrainedCoder();
            check.is("loadCharge(" + c + ")", x.loadCharge(c), 2 * c + 1);
            check.is("stateCount()", x.stateCount(), 2 * c + 1);
            check.is("edgeCount()", x.edgeCount(), 4 * c);
        }
        Effects.changesOnly(check, Scene.FULL, "loadCharge(7)", x -> x.loadCharge(7), Everything.GRAPH,
            Everything.ENCODER, Everything.ENCODER_START);
    }

    private static void chargesOutOfRange(Check check) {
        for (int c : Calls.outside(1, 7)) {
            Effects.refusedEverywhere(check, "loadCharge(" + c + ")", x -> x.loadCharge(c), -3);
        }
        // Twice such a number wraps around to a small one.
        for (int c : new int[] {MIN + 1, MIN + 3, MIN + 7, 1 << 31 | 1}) {
            Effects.refused(check, Scene.WORKING, "loadCharge(" + c + ")", x -> x.loadCharge(c), -3);
        }
    }

    private static void clearToEachLength(Check check) {
        for (int length = 1; length <= 4; length++) {
            ConstrainedCoder x = Calls.runLength(1, 3);
            check.is("clear(" + length + ")", x.clear(length), 6);
            check.text("graph", Calls.graphText(x), length + "/0:");
            x.addState();
            check.is("the greatest label", x.addEdge(0, (1 << length) - 1, 0), 0);
        }
    }

    private static void clearTellsTheEdges(Check check) {
        check.is("none, of a new object", new ConstrainedCoder().clear(1), 0);
        check.is("none, of states without edges", Calls.states(1, 16).clear(2), 0);
        check.is("one", Calls.loops(1).clear(1), 1);
        check.is("64", Calls.loops(64).clear(4), 64);
        ConstrainedCoder x = Calls.loops(3);
        check.is("three", x.clear(1), 3);
        check.is("none are left", x.clear(1), 0);
    }

    private static void clearOutOfRange(Check check) {
        for (int length : Calls.outside(1, 4)) {
            Effects.refusedEverywhere(check, "clear(" + length + ")", x -> x.clear(length), -3);
        }
    }

    private static void statesAreNumberedFromZero(Check check) {
        ConstrainedCoder x = new ConstrainedCoder();
        for (int s = 0; s < 16; s++) {
            check.is("addState()", x.addState(), s);
            check.is("stateCount()", x.stateCount(), s + 1);
        }
        check.is("after a constraint of 15 states", Calls.charge(7).addState(), 15);
        ConstrainedCoder y = Calls.loops(2);
        y.split(0, 1);
        check.is("after a split", y.addState(), 2);
        Effects.changesOnly(check, Scene.WORKING, "addState()", x1 -> x1.addState(), Everything.GRAPH,
            Everything.ENCODER, Everything.ENCODER_START);
    }

    private static void aSeventeenthState(Check check) {
        Effects.refused(check, Scene.FULL, "addState()", x -> x.addState(), -4);
        Effects.refused(check, () -> Calls.states(1, 16), "addState() without edges", x -> x.addState(), -4);
        ConstrainedCoder charge = Calls.charge(7);
        check.is("the 16th", charge.addState(), 15);
        check.is("the 17th", charge.addState(), -4);
        check.is("the 17th, asked again", charge.addState(), -4);
        check.is("stateCount()", charge.stateCount(), 16);
        charge.clear(1);
        check.is("room again", charge.addState(), 0);
        ConstrainedCoder split = Calls.states(1, 15);
        split.addEdge(14, 0, 0);
        split.addEdge(14, 1, 0);
        check.is("a split to 16", split.split(14, 1), 15);
        check.is("after it", split.addState(), -4);
        ConstrainedCoder restored = Scene.FULL.make();
        restored.clear(1);
        restored.restoreSnapshot();
        check.is("after a full snapshot", restored.addState(), -4);
    }

    private static void edgesAreNumberedFromZero(Check check) {
        ConstrainedCoder x = Calls.states(2, 3);
        for (int e = 0; e < 64; e++) {
            check.is("addEdge", x.addEdge(e % 3, e % 4, (e + 1) % 3), e);
        }
        check.is("edgeCount()", x.edgeCount(), 64);
        check.is("after a constraint", Calls.runLength(1, 3).addEdge(3, 0, 3), 6);
        Effects.changesOnly(check, Scene.WORKING, "addEdge(2, 3, 2)", y -> y.addEdge(2, 3, 2), Everything.GRAPH,
            Everything.ENCODER, Everything.ENCODER_START);
    }

    private static void edgesWithoutStates(Check check) {
        for (int wrong : Calls.outside(0, 2)) {
            Effects.refused(check, Scene.WORKING, "from " + wrong, x -> x.addEdge(wrong, 0, 0), -1);
            Effects.refused(check, Scene.WORKING, "to " + wrong, x -> x.addEdge(0, 0, wrong), -1);
            Effects.refused(check, Scene.WORKING, "to and bad label", x -> x.addEdge(2, 4, wrong), -1);
        }
        for (int wrong : Calls.outside(0, 15)) {
            Effects.refused(check, Scene.FULL, "from, bad label, full", x -> x.addEdge(wrong, -1, 0), -1);
            Effects.refused(check, Scene.FULL, "to, bad label, full", x -> x.addEdge(0, 4, wrong), -1);
            Effects.refused(check, Scene.FULL, "to, full", x -> x.addEdge(0, 3, wrong), -1);
        }
        Effects.refused(check, Scene.NEW, "without states", x -> x.addEdge(0, 0, 0), -1);
        Effects.refused(check, Scene.NEW, "without states, bad label", x -> x.addEdge(0, 2, 0), -1);
    }

    private static void edgesWithWrongLabels(Check check) {
        for (int bits = 1; bits <= 4; bits++) {
            int length = bits;
            int greatest = (1 << bits) - 1;
            for (int label : Calls.outside(0, greatest)) {
                Effects.refused(check, () -> Calls.graph(length, 2, 0, 1, 1), "label " + label + " of " + bits,
                    x -> x.addEdge(0, label, 1), -3);
            }
            for (int label = 0; label <= greatest; label++) {
                ConstrainedCoder x = Calls.states(bits, 1);
                check.is("label " + label + " of " + bits, x.addEdge(0, label, 0), 0);
                check.is("edgeLabel(0)", x.edgeLabel(0), label);
            }
        }
        Effects.refused(check, Scene.FULL, "a great label, full", x -> x.addEdge(0, 4, 0), -3);
        Effects.refused(check, Scene.FULL, "a negative label, full", x -> x.addEdge(0, -1, 0), -3);
        Effects.refused(check, Scene.WORKING, "a great label", x -> x.addEdge(0, 4, 0), -3);
    }

    private static void aSixtyFifthEdge(Check check) {
        Effects.refused(check, Scene.FULL, "addEdge(0, 0, 0)", x -> x.addEdge(0, 0, 0), -4);
        Effects.refused(check, Scene.FULL, "addEdge(15, 3, 15)", x -> x.addEdge(15, 3, 15), -4);
        ConstrainedCoder x = Calls.loops(63);
        check.is("the 64th", x.addEdge(0, 1, 0), 63);
        check.is("the 65th", x.addEdge(0, 1, 0), -4);
        check.is("edgeCount()", x.edgeCount(), 64);
        x.removeEdge(5);
        check.is("room again", x.addEdge(0, 1, 0), 63);
        ConstrainedCoder power = Calls.loops(8);
        power.power(2);
        check.is("after a power of 64 edges", power.addEdge(0, 0, 0), -4);
        ConstrainedCoder split = Calls.loops(32);
        split.split(0, 1);
        check.is("after a split to 64 edges", split.addEdge(0, 0, 0), -4);
    }

    private static void laterEdgesMoveDown(Check check) {
        for (int removed = 0; removed < 64; removed++) {
            ConstrainedCoder x = new ConstrainedCoder();
            x.clear(4);
            for (int s = 0; s < 16; s++) {
                x.addState();
            }
            for (int e = 0; e < 64; e++) {
                x.addEdge(e / 4, e % 16, e * 3 % 16);
            }
            check.is("removeEdge(" + removed + ")", x.removeEdge(removed), 63);
            for (int e = 0; e < 63; e++) {
                int before = e < removed ? e : e + 1;
                check.is("start of " + e, x.edgeStart(e), before / 4);
                check.is("label of " + e, x.edgeLabel(e), before % 16);
                check.is("end of " + e, x.edgeEnd(e), before * 3 % 16);
            }
            check.is("edgeEnd(63)", x.edgeEnd(63), -2);
        }
    }

    private static void removeEdgeTellsTheRest(Check check) {
        ConstrainedCoder last = Calls.loops(64);
        ConstrainedCoder first = Calls.loops(64);
        for (int left = 63; left >= 0; left--) {
            check.is("the last edge", last.removeEdge(left), left);
            check.is("the first edge", first.removeEdge(0), left);
            check.is("edgeCount()", first.edgeCount(), left);
        }
        check.is("the states stay", first.stateCount(), 1);
        Effects.changesOnly(check, Scene.WORKING, "removeEdge(7)", x -> x.removeEdge(7), Everything.GRAPH,
            Everything.ENCODER, Everything.ENCODER_START);
    }

    private static void removeNoSuchEdge(Check check) {
        for (Scene scene : Scene.values()) {
            int edges = scene.make().edgeCount();
            for (int edge : Calls.outside(0, Math.max(0, edges - 1))) {
                Effects.refused(check, scene, "removeEdge(" + edge + ") when " + scene, x -> x.removeEdge(edge), -2);
            }
        }
        Effects.refused(check, Scene.NEW, "removeEdge(0) without edges", x -> x.removeEdge(0), -2);
        Effects.refused(check, Scene.WORKING, "removeEdge(8) of 8", x -> x.removeEdge(8), -2);
        Effects.refused(check, Scene.FULL, "removeEdge(64) of 64", x -> x.removeEdge(64), -2);
        ConstrainedCoder x = Calls.loops(1);
        x.removeEdge(0);
        check.is("removed already", x.removeEdge(0), -2);
        check.is("edgeCount()", x.edgeCount(), 0);
    }

    private static void zeroToSixteenStates(Check check) {
        check.is("a new object", new ConstrainedCoder().stateCount(), 0);
        check.is("all", Scene.FULL.make().stateCount(), 16);
        ConstrainedCoder x = new ConstrainedCoder();
        for (int s = 0; s <= 20; s++) {
            check.is("after " + s + " calls of addState", x.stateCount(), Math.min(s, 16));
            x.addState();
        }
        check.is("one", Calls.runLength(0, 0).stateCount(), 1);
        Effects.asks(check, "stateCount()", y -> y.stateCount());
    }

    private static void zeroToSixtyFourEdges(Check check) {
        check.is("a new object", new ConstrainedCoder().edgeCount(), 0);
        check.is("states without edges", Calls.states(1, 16).edgeCount(), 0);
        check.is("all", Scene.FULL.make().edgeCount(), 64);
        ConstrainedCoder x = Calls.states(1, 1);
        for (int e = 0; e <= 70; e++) {
            check.is("after " + e + " calls of addEdge", x.edgeCount(), Math.min(e, 64));
            x.addEdge(0, 0, 0);
        }
        Effects.asks(check, "edgeCount()", y -> y.edgeCount());
    }

    private static void oneToFourBits(Check check) {
        check.is("a new object", new ConstrainedCoder().labelLength(), 1);
        for (int bits = 1; bits <= 4; bits++) {
            check.is("cleared to " + bits, Calls.states(bits, 0).labelLength(), bits);
            ConstrainedCoder x = Calls.runLength(0, 1);
            x.power(bits);
            check.is("the power " + bits, x.labelLength(), bits);
            x.loadCharge(1);
            check.is("of a constraint", x.labelLength(), 1);
        }
        Effects.asks(check, "labelLength()", x -> x.labelLength());
    }

    private static int edgePart(ConstrainedCoder x, int part, int edge) {
        return part == 0 ? x.edgeStart(edge) : part == 1 ? x.edgeLabel(edge) : x.edgeEnd(edge);
    }

    private static void noSuchEdge(Check check, String name, int part) {
        for (Scene scene : Scene.values()) {
            int edges = scene.make().edgeCount();
            for (int edge : new int[] {edges, edges + 1, -1, 64, 65, 256 - 1, 65536, MIN, MAX}) {
                check.is(name + "(" + edge + ") when " + scene, edgePart(scene.make(), part, edge), -2);
            }
        }
        ConstrainedCoder x = Calls.loops(64);
        x.removeEdge(0);
        check.is(name + "(63) after a removal", edgePart(x, part, 63), -2);
        x.clear(1);
        check.is(name + "(0) after clear", edgePart(x, part, 0), -2);
        Effects.asks(check, name + "(0)", y -> edgePart(y, part, 0));
        Effects.asks(check, name + "(64)", y -> edgePart(y, part, 64));
    }

    private static ConstrainedCoder sixtyFourEdges() {
        ConstrainedCoder x = Calls.graph(4, 16, 3, 14, 11);
        for (int e = 1; e < 63; e++) {
            x.addEdge(0, 0, 0);
        }
        x.addEdge(15, 9, 14);
        return x;
    }

    private static void startsOfTheFirstAndTheLastEdge(Check check) {
        check.is("edgeStart(0)", sixtyFourEdges().edgeStart(0), 3);
        check.is("edgeStart(63)", sixtyFourEdges().edgeStart(63), 15);
    }

    private static void labelsOfTheFirstAndTheLastEdge(Check check) {
        check.is("edgeLabel(0)", sixtyFourEdges().edgeLabel(0), 14);
        check.is("edgeLabel(63)", sixtyFourEdges().edgeLabel(63), 9);
    }

    private static void endsOfTheFirstAndTheLastEdge(Check check) {
        check.is("edgeEnd(0)", sixtyFourEdges().edgeEnd(0), 11);
        check.is("edgeEnd(63)", sixtyFourEdges().edgeEnd(63), 14);
    }

    private static void exponentsFromOneToFour(Check check) {
        int[] edges = {3, 5, 8, 13};
        for (int q = 1; q <= 4; q++) {
            ConstrainedCoder x = Calls.runLength(0, 1);
            check.is("power(" + q + ")", x.power(q), edges[q - 1]);
            check.is("labelLength()", x.labelLength(), q);
            check.is("stateCount()", x.stateCount(), 2);
        }
        Effects.changesOnly(check, Scene.WORKING, "power(2)", x -> x.power(2), Everything.GRAPH, Everything.ENCODER,
            Everything.ENCODER_START);
        Effects.changesOnly(check, Scene.FULL, "power(1)", x -> x.power(1), Everything.GRAPH, Everything.ENCODER,
            Everything.ENCODER_START);
    }

    private static void powerTellsTheEdges(Check check) {
        check.is("without states", new ConstrainedCoder().power(1), 0);
        check.is("without edges", Calls.states(2, 16).power(2), 0);
        check.is("a chain that is too short", Calls.graph(1, 3, 0, 0, 1, 1, 0, 2).power(3), 0);
        ConstrainedCoder full = Calls.loops(64);
        for (int i = 0; i < 5; i++) {
            check.is("64 edges, power 1, again and again", full.power(1), 64);
        }
        full.clear(1);
        check.is("none are left", full.power(1), 0);
        check.is("8 loops, power 2", Calls.loops(8).power(2), 64);
        check.is("4 loops, power 3", Calls.loops(4).power(3), 64);
        check.is("2 loops, power 4", Calls.loops(2).power(4), 16);
    }

    private static void exponentsOutOfRange(Check check) {
        for (int q : Calls.outside(1, 4)) {
            Effects.refusedEverywhere(check, "power(" + q + ")", x -> x.power(q), -3);
        }
    }

    /** The label length times these exponents wraps around to at most 4, or is just above it. */
    private static void powersWithTooLongLabels(Check check) {
        for (int bits = 1; bits <= 4; bits++) {
            int length = bits;
            for (int q = 1; q <= 4; q++) {
                int exponent = q;
                if (bits * q > 4) {
                    Effects.refused(check, () -> Calls.graph(length, 1, 0, 1, 0), bits + " times " + q,
                        x -> x.power(exponent), -3);
                } else {
                    check.is(bits + " times " + q, Calls.graph(bits, 1, 0, 1, 0).power(q), 1);
                }
            }
            Effects.refused(check, () -> Calls.graph(length, 1, 0, 1, 0), bits + " times 2^30", x -> x.power(1 << 30),
                -3);
        }
        Effects.refused(check, Scene.FULL, "too long comes before full", x -> x.power(3), -3);
        Effects.refused(check, Scene.FULL, "a bad exponent comes before full", x -> x.power(5), -3);
    }

    private static void powersWithTooManyEdges(Check check) {
        for (int q = 2; q <= 4; q++) {
            int exponent = q;
            int loops = q == 2 ? 8 : q == 3 ? 4 : 2;
            check.is("as many as there is room for", withChain(loops, 0).power(q), q == 4 ? 16 : 64);
            Effects.refused(check, () -> Calls.loops(loops + 1), (loops + 1) + " loops, power " + q,
                x -> x.power(exponent), -4);
        }
        Effects.refused(check, () -> withChain(8, 2), "64 and one paths of two edges", x -> x.power(2), -4);
        Effects.refused(check, () -> withChain(4, 3), "64 and one paths of three edges", x -> x.power(3), -4);
        check.is("64 and none of three edges", withChain(4, 2).power(3), 64);
        Effects.refused(check, () -> Calls.loops(64), "64^4 paths", x -> x.power(4), -4);
        Effects.refused(check, Scene.FULL, "power(2)", x -> x.power(2), -4);
        check.is("many short paths, no long ones", wideChain().power(3), 0);
        ConstrainedCoder loop = wideChain();
        loop.addState();
        loop.removeEdge(63);
        loop.addEdge(3, 1, 3);
        check.is("many short paths, one long one", loop.power(3), 1);
        check.text("the long one", Calls.graphText(loop), "3/4: 3-7-3");
        // The beginnings of no long path are more than 64, and the long paths come behind them.
        ConstrainedCoder behind = Calls.states(1, 4);
        for (int i = 0; i < 40; i++) {
            behind.addEdge(i % 2, 0, i % 2 + 1);
        }
        behind.addEdge(0, 1, 3);
        behind.addEdge(3, 0, 3);
        check.is("two long paths behind many short ones", behind.power(3), 2);
        check.text("the long ones", Calls.graphText(behind), "3/4: 0-4-3 3-0-3");
        Effects.refused(check, GraphSentencesTest::wideChain, "many short paths", x -> x.power(2), -4);
    }

    /** Loops at state 0, and beside them a chain of so many edges. */
    private static ConstrainedCoder withChain(int loops, int chain) {
        ConstrainedCoder x = Calls.loops(loops);
        x.addState();
        for (int i = 0; i < chain; i++) {
            int next = x.addState();
            x.addEdge(next - 1, 1, next);
        }
        return x;
    }

    /** 32 ways each from state 0 to 1 and from there to 2, where they end. */
    private static ConstrainedCoder wideChain() {
        ConstrainedCoder x = Calls.states(1, 3);
        for (int i = 0; i < 64; i++) {
            x.addEdge(i % 2, 0, i % 2 + 1);
        }
        return x;
    }

    private static void splitTellsTheNewState(Check check) {
        check.is("the second state", Calls.loops(2).split(0, 1), 1);
        ConstrainedCoder x = Calls.states(1, 15);
        x.addEdge(3, 0, 4);
        x.addEdge(3, 1, 4);
        check.is("the 16th state", x.split(3, 2), 15);
        check.is("stateCount()", x.stateCount(), 16);
        Effects.changesOnly(check, Scene.WORKING, "split(2, 5)", y -> y.split(2, 5), Everything.GRAPH,
            Everything.ENCODER, Everything.ENCODER_START);
    }

    private static void splitNoSuchState(Check check) {
        for (int state : Calls.outside(0, 15)) {
            Effects.refusedEverywhere(check, "split(" + state + ", 1)", x -> x.split(state, 1), -1);
            Effects.refused(check, Scene.FULL, "split(" + state + ", 0)", x -> x.split(state, 0), -1);
        }
        Effects.refused(check, Scene.WORKING, "split(3, 1) of 3 states", x -> x.split(3, 1), -1);
        Effects.refused(check, Scene.WORKING, "split(3, 0) of 3 states", x -> x.split(3, 0), -1);
        Effects.refused(check, Scene.NEW, "split(0, 1) without states", x -> x.split(0, 1), -1);
        Effects.refused(check, Scene.NEW, "split(0, 0) without states", x -> x.split(0, 0), -1);
    }

    private static void splitFewEdges(Check check) {
        for (int mask = -1; mask <= 3; mask++) {
            int kept = mask;
            Effects.refused(check, () -> Calls.states(1, 1), "no edges, " + mask, x -> x.split(0, kept), -3);
            Effects.refused(check, () -> Calls.loops(1), "one edge, " + mask, x -> x.split(0, kept), -3);
            Effects.refused(check, () -> Calls.graph(1, 2, 0, 0, 1, 1, 0, 0, 1, 1, 0), "one edge beside two, " + mask,
                x -> x.split(0, kept), -3);
        }
        check.is("two edges", Calls.loops(2).split(0, 1), 1);
        Effects.refused(check, Scene.DEAD_END, "a state without edges", x -> x.split(1, 1), -3);
        Effects.refused(check, GraphSentencesTest::sixteenStatesWithOneEdgeEach, "one edge, and full",
            x -> x.split(7, 1), -3);
    }

    private static ConstrainedCoder sixteenStatesWithOneEdgeEach() {
        ConstrainedCoder x = Calls.states(1, 16);
        for (int s = 0; s < 16; s++) {
            x.addEdge(s, 0, 15 - s);
        }
        return x;
    }

    private static void splitSmallMasks(Check check) {
        for (int mask : new int[] {0, -1, -2, -3, -4, MIN, MIN + 1, MIN + 2, -256, -65536}) {
            Effects.refused(check, Scene.WORKING, "split(2, " + mask + ")", x -> x.split(2, mask), -3);
            Effects.refused(check, Scene.FULL, "split(2, " + mask + "), full", x -> x.split(2, mask), -3);
            Effects.refused(check, () -> Calls.loops(64), "mask " + mask + " of 64", x -> x.split(0, mask), -3);
        }
        check.is("the least mask", Calls.loops(3).split(0, 1), 1);
    }

    private static void splitGreatMasks(Check check) {
        for (int m = 2; m <= 5; m++) {
            int edges = m;
            for (int mask = 1; mask <= 2 << m; mask++) {
                int kept = mask;
                if (mask <= (1 << m) - 2) {
                    ConstrainedCoder x = Calls.loops(m);
                    check.is("mask " + mask + " of " + m, x.split(0, mask), 1);
                    check.is("edges that are kept", edgesAt(x, 0, m), Integer.bitCount(mask));
                } else {
                    Effects.refused(check, () -> Calls.loops(edges), "mask " + mask + " of " + m,
                        x -> x.split(0, kept), -3);
                }
            }
        }
        for (int mask : new int[] {15, 16, 1 << 30, MAX, MAX - 1, (1 << 16) + 1, 257}) {
            Effects.refused(check, Scene.FULL, "mask " + mask + " of 4, full", x -> x.split(2, mask), -3);
        }
    }

    private static int edgesAt(ConstrainedCoder x, int state, int edges) {
        int count = 0;
        for (int e = 0; e < edges; e++) {
            count += x.edgeStart(e) == state ? 1 : 0;
        }
        return count;
    }

    private static ConstrainedCoder fan(int edges) {
        ConstrainedCoder x = Calls.states(1, 2);
        for (int i = 0; i < edges; i++) {
            x.addEdge(0, 0, 1);
        }
        return x;
    }

    private static void splitMasksOfManyEdges(Check check) {
        for (int m : new int[] {28, 29, 30, 31, 32, 33, 34, 35, 62, 63, 64}) {
            int greatest = (1 << Math.min(m, 30)) - 2;
            ConstrainedCoder x = fan(m);
            check.is("the greatest mask of " + m, x.split(0, greatest), 2);
            for (int e = 0; e < m; e++) {
                check.is("start of " + e, x.edgeStart(e), e >= 1 && e < Math.min(m, 30) ? 0 : 2);
            }
            for (int mask : new int[] {greatest + 1, greatest + 2, greatest + 3, 1 << 30, MAX - 1, MAX}) {
                Effects.refused(check, () -> fan(m), "mask " + mask + " of " + m, y -> y.split(0, mask), -3);
            }
            ConstrainedCoder one = fan(m);
            check.is("mask 1 of " + m, one.split(0, 1), 2);
            check.is("edges that are kept", edgesAt(one, 0, m), 1);
        }
    }

    private static void splitOfSixteenStates(Check check) {
        for (int state = 0; state < 16; state++) {
            int split = state;
            Effects.refused(check, Scene.FULL, "split(" + state + ", 1)", x -> x.split(split, 1), -4);
        }
        Effects.refused(check, GraphSentencesTest::sixteenStatesWithRoom, "split(0, 1)", x -> x.split(0, 1), -4);
    }

    /** Sixteen states, and two edges only, so that only the states are full. */
    private static ConstrainedCoder sixteenStatesWithRoom() {
        ConstrainedCoder x = Calls.states(1, 16);
        x.addEdge(0, 0, 1);
        x.addEdge(0, 1, 1);
        return x;
    }

    /** Two states; so many edges lead to state 0, of which two start there; the rest leads to state 1. */
    private static ConstrainedCoder leadingBack(int incoming, int rest) {
        ConstrainedCoder x = Calls.states(1, 2);
        for (int i = 0; i < incoming; i++) {
            x.addEdge(i < 2 ? 0 : 1, 0, 0);
        }
        for (int i = 0; i < rest; i++) {
            x.addEdge(1, 0, 1);
        }
        return x;
    }

    private static void splitToTooManyEdges(Check check) {
        ConstrainedCoder x = leadingBack(32, 0);
        check.is("32 and 32 edges", x.split(0, 1), 2);
        check.is("edgeCount()", x.edgeCount(), 64);
        check.is("4 and 60 edges", leadingBack(4, 56).split(0, 1), 2);
        Effects.refused(check, () -> leadingBack(32, 1), "33 and 32 edges", y -> y.split(0, 1), -4);
        Effects.refused(check, () -> leadingBack(33, 0), "33 and 33 edges", y -> y.split(0, 1), -4);
        Effects.refused(check, () -> leadingBack(4, 57), "61 and 4 edges", y -> y.split(0, 1), -4);
        Effects.refused(check, () -> Calls.loops(64), "64 and 64 edges", y -> y.split(0, 2), -4);
        check.is("64 edges, none of which comes back", fan(64).split(0, 1), 2);
    }

    private static void deterministicOrNot(Check check) {
        check.is("different labels", Calls.graph(1, 1, 0, 0, 0, 0, 1, 0).isDeterministic(), 1);
        check.is("equal labels", Calls.graph(1, 1, 0, 0, 0, 0, 0, 0).isDeterministic(), 0);
        check.is("equal labels, different ends", Calls.graph(1, 2, 0, 1, 0, 0, 1, 1).isDeterministic(), 0);
        check.is("equal labels of different states", Calls.graph(1, 2, 0, 1, 0, 1, 1, 0).isDeterministic(), 1);
        check.is("all sixteen labels", allLabels(-1).isDeterministic(), 1);
        for (int again = 0; again < 16; again++) {
            check.is("one of sixteen labels again", allLabels(again).isDeterministic(), 0);
        }
        Effects.asks(check, "isDeterministic()", x -> x.isDeterministic());
    }

    private static ConstrainedCoder allLabels(int again) {
        ConstrainedCoder x = Calls.states(4, 16);
        for (int label = 0; label < 16; label++) {
            x.addEdge(15, label, label);
        }
        x.addEdge(15, again, 3);
        return x;
    }

    private static void withoutStatesItIsReducible(Check check) {
        check.is("a new object", new ConstrainedCoder().isIrreducible(), 0);
        ConstrainedCoder x = Calls.loops(2);
        x.clear(1);
        check.is("after clear", x.isIrreducible(), 0);
    }

    private static void thePathWithoutEdges(Check check) {
        check.is("one state without edges", Calls.states(1, 1).isIrreducible(), 1);
        check.is("two states without loops", Calls.graph(1, 2, 0, 0, 1, 1, 0, 0).isIrreducible(), 1);
    }

    private static void fromEveryStateToEveryState(Check check) {
        ConstrainedCoder x = Calls.states(1, 16);
        for (int s = 0; s < 16; s++) {
            check.is("a ring with a gap", x.isIrreducible(), 0);
            x.addEdge(s * 5 % 16, 0, (s + 1) * 5 % 16);
        }
        check.is("a ring of 16", x.isIrreducible(), 1);
        for (int e = 15; e >= 0; e--) {
            ConstrainedCoder y = Calls.states(1, 16);
            for (int s = 0; s < 16; s++) {
                y.addEdge(s, 0, s == e ? s : (s + 1) % 16);
            }
            check.is("a ring whose edge " + e + " goes back", y.isIrreducible(), 0);
        }
        for (int stuck = 0; stuck < 16; stuck++) {
            ConstrainedCoder y = Calls.states(1, 16);
            for (int s = 1; s < 16; s++) {
                y.addEdge((stuck + s) % 16, 0, (stuck + s % 15 + 1) % 16);
            }
            y.addEdge((stuck + 9) % 16, 1, stuck);
            check.is("all lead everywhere but state " + stuck, y.isIrreducible(), 0);
            y.addEdge(stuck, 0, (stuck + 9) % 16);
            check.is("and back from there", y.isIrreducible(), 1);
        }
        check.is("to all, but not back", Calls.graph(1, 3, 0, 0, 1, 0, 0, 2).isIrreducible(), 0);
        check.is("from all, but not there", Calls.graph(1, 3, 1, 0, 0, 2, 0, 0).isIrreducible(), 0);
    }

    private static void irreducibleOrNot(Check check) {
        check.is("charge", Calls.charge(7).isIrreducible(), 1);
        check.is("two parts", Calls.graph(1, 2, 0, 0, 0, 1, 0, 1).isIrreducible(), 0);
        Effects.asks(check, "isIrreducible()", x -> x.isIrreducible());
    }
}
