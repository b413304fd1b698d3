/** Promises 1 to 17: a new object and the graph. */
final class GraphTest {
    private static final int MIN = Integer.MIN_VALUE;
    private static final int MAX = Integer.MAX_VALUE;

    private GraphTest() {
    }

    static void run(Check check) {
        newObject(check);
        loadRunLength(check);
        loadCharge(check);
        clear(check);
        addState(check);
        addEdge(check);
        removeEdge(check);
        counts(check);
        edgeQuestions(check);
        power(check);
        powerLimits(check);
        split(check);
        splitLoops(check);
        splitErrors(check);
        splitManyEdges(check);
        isDeterministic(check);
        isIrreducible(check);
        changesOfTheGraphLeaveTheWord(check);
    }

    private static void newObject(Check check) {
        check.about("promise 1");
        ConstrainedCoder x = new ConstrainedCoder();
        check.text("graph", Calls.graphText(x), "1/0:");
        check.is("wordLength()", x.wordLength(), 0);
        check.is("parseConstraint()", x.parseConstraint(), -100);
        check.is("encoderState()", x.encoderState(), -7);
        check.is("encode(0)", x.encode(0), -7);
        check.is("decode(0)", x.decode(0), -7);
        for (int slot = 0; slot < 3; slot++) {
            check.is("element(slot, 0)", x.element(slot, 0), -10);
        }
        check.is("restoreSnapshot()", x.restoreSnapshot(), -5);
        ConstrainedCoder other = Calls.runLength(1, 3);
        check.is("an object beside another stays empty", x.stateCount(), 0);
        check.is("the other one", other.stateCount(), 4);
    }

    private static void loadRunLength(Check check) {
        check.about("promise 2");
        ConstrainedCoder x = Calls.graph(2, 3, 0, 1, 1, 1, 2, 2);
        check.is("loadRunLength(1, 3)", x.loadRunLength(1, 3), 4);
        check.text("graph of 1, 3", Calls.graphText(x), "1/4: 0-0-1 1-0-2 1-1-0 2-0-3 2-1-0 3-1-0");
        check.is("loadRunLength(0, 0)", x.loadRunLength(0, 0), 1);
        check.text("graph of 0, 0", Calls.graphText(x), "1/1: 0-1-0");
        check.is("loadRunLength(0, 7)", x.loadRunLength(0, 7), 8);
        check.is("edges of 0, 7", x.edgeCount(), 15);
        check.is("loadRunLength(7, 7)", x.loadRunLength(7, 7), 8);
        check.text("graph of 7, 7", Calls.graphText(x),
            "1/8: 0-0-1 1-0-2 2-0-3 3-0-4 4-0-5 5-0-6 6-0-7 7-1-0");
        check.is("loadRunLength(2, 3)", x.loadRunLength(2, 3), 4);
        String before = Calls.graphText(x);
        int[][] wrong = {{3, 1}, {0, 8}, {8, 8}, {-1, 3}, {-1, -1}, {MIN, MIN}, {MAX, MAX}, {MIN, MAX}, {0, -1}};
        for (int[] limits : wrong) {
            check.is("loadRunLength out of range", x.loadRunLength(limits[0], limits[1]), -3);
        }
        check.text("graph after errors", Calls.graphText(x), before);
    }

    private static void loadCharge(Check check) {
        check.about("promise 3");
        ConstrainedCoder x = Calls.states(4, 2);
        check.is("loadCharge(1)", x.loadCharge(1), 3);
        check.text("graph of 1", Calls.graphText(x), "1/3: 0-1-1 1-0-0 1-1-2 2-0-1");
        check.is("loadCharge(2)", x.loadCharge(2), 5);
        check.text("graph of 2", Calls.graphText(x), "1/5: 0-1-1 1-0-0 1-1-2 2-0-1 2-1-3 3-0-2 3-1-4 4-0-3");
        check.is("loadCharge(7)", x.loadCharge(7), 15);
        check.is("edges of 7", x.edgeCount(), 28);
        check.is("the last edge's end", x.edgeEnd(27), 13);
        for (int c : new int[] {0, 8, -1, MIN, MAX}) {
            check.is("loadCharge out of range", x.loadCharge(c), -3);
        }
        check.is("states after errors", x.stateCount(), 15);
    }

    private static void clear(Check check) {
        check.about("promise 4");
        ConstrainedCoder x = Calls.runLength(1, 3);
        Calls.setWord(x, "101");
        for (int length : new int[] {0, 5, -1, MIN, MAX}) {
            check.is("clear out of range", x.clear(length), -3);
        }
        check.is("edges after errors", x.edgeCount(), 6);
        check.is("clear(4)", x.clear(4), 6);
        check.text("graph", Calls.graphText(x), "4/0:");
        check.text("word", Calls.word(x), "101");
        check.is("clear(1)", x.clear(1), 0);
        check.is("labelLength()", x.labelLength(), 1);
        check.is("clear(3)", x.clear(3), 0);
        check.is("labelLength()", x.labelLength(), 3);
    }

    private static void addState(Check check) {
        check.about("promise 5");
        ConstrainedCoder x = new ConstrainedCoder();
        for (int i = 0; i < 16; i++) {
            check.is("addState()", x.addState(), i);
        }
        check.is("addState() beyond 16", x.addState(), -4);
        check.is("stateCount()", x.stateCount(), 16);
        x.loadRunLength(1, 3);
        check.is("addState() to a constraint", x.addState(), 4);
        check.is("edges stay", x.edgeCount(), 6);
    }

    private static void addEdge(Check check) {
        check.about("promise 6");
        ConstrainedCoder x = Calls.states(2, 2);
        check.is("addEdge(0, 3, 1)", x.addEdge(0, 3, 1), 0);
        check.is("the same again", x.addEdge(0, 3, 1), 1);
        check.is("a loop", x.addEdge(1, 0, 1), 2);
        check.text("graph", Calls.graphText(x), "2/2: 0-3-1 0-3-1 1-0-1");
        check.is("from 2", x.addEdge(2, 0, 0), -1);
        check.is("to 2", x.addEdge(0, 0, 2), -1);
        check.is("from -1", x.addEdge(-1, 0, 0), -1);
        check.is("to -1", x.addEdge(0, 0, -1), -1);
        check.is("from the least int", x.addEdge(MIN, 0, MAX), -1);
        check.is("no such state comes before a bad label", x.addEdge(2, -1, 0), -1);
        check.is("label -1", x.addEdge(0, -1, 0), -3);
        check.is("label 4", x.addEdge(0, 4, 0), -3);
        check.is("the least label", x.addEdge(0, MIN, 0), -3);
        check.is("the greatest label", x.addEdge(0, MAX, 0), -3);
        check.is("edgeCount() after errors", x.edgeCount(), 3);
        for (int i = 3; i < 64; i++) {
            check.is("addEdge", x.addEdge(1, 1, 0), i);
        }
        check.is("edge 65", x.addEdge(0, 0, 0), -4);
        check.is("a bad label comes before full", x.addEdge(0, 4, 0), -3);
        check.is("no such state comes before full", x.addEdge(0, 0, 2), -1);
        check.is("edgeCount()", x.edgeCount(), 64);
        for (int bits = 1; bits <= 4; bits++) {
            ConstrainedCoder y = Calls.states(bits, 1);
            check.is("the greatest label of the length", y.addEdge(0, (1 << bits) - 1, 0), 0);
            check.is("one more", y.addEdge(0, 1 << bits, 0), -3);
        }
    }

    private static void removeEdge(Check check) {
        check.about("promise 7");
        ConstrainedCoder x = Calls.graph(2, 2, 0, 0, 0, 0, 1, 1, 1, 2, 0, 1, 3, 1);
        for (int edge : new int[] {-1, 4, MIN, MAX}) {
            check.is("no such edge", x.removeEdge(edge), -2);
        }
        check.is("removeEdge(1)", x.removeEdge(1), 3);
        check.text("graph", Calls.graphText(x), "2/2: 0-0-0 1-2-0 1-3-1");
        check.is("removeEdge(2), the last one", x.removeEdge(2), 2);
        check.is("removeEdge(2), gone", x.removeEdge(2), -2);
        check.is("removeEdge(0)", x.removeEdge(0), 1);
        check.text("graph", Calls.graphText(x), "2/2: 1-2-0");
        check.is("removeEdge(0)", x.removeEdge(0), 0);
        check.is("removeEdge(0), none left", x.removeEdge(0), -2);
        ConstrainedCoder full = Calls.loops(64);
        check.is("removeEdge(63)", full.removeEdge(63), 63);
        check.is("room again", full.addEdge(0, 1, 0), 63);
        check.is("removeEdge(0) of 64", full.removeEdge(0), 63);
        check.is("the last edge moved", full.edgeLabel(62), 1);
    }

    private static void counts(Check check) {
        check.about("promises 8 to 10");
        ConstrainedCoder x = Calls.graph(3, 2, 0, 7, 1);
        check.is("stateCount()", x.stateCount(), 2);
        check.is("edgeCount()", x.edgeCount(), 1);
        check.is("labelLength()", x.labelLength(), 3);
        x.loadCharge(7);
        check.is("stateCount()", x.stateCount(), 15);
        check.is("edgeCount()", x.edgeCount(), 28);
        check.is("labelLength()", x.labelLength(), 1);
    }

    private static void edgeQuestions(Check check) {
        check.about("promises 11 to 13");
        ConstrainedCoder x = Calls.graph(4, 3, 0, 15, 2, 2, 9, 1);
        check.is("edgeStart(1)", x.edgeStart(1), 2);
        check.is("edgeLabel(1)", x.edgeLabel(1), 9);
        check.is("edgeEnd(1)", x.edgeEnd(1), 1);
        check.is("edgeLabel(0)", x.edgeLabel(0), 15);
        check.is("edgeEnd(0)", x.edgeEnd(0), 2);
        for (int edge : new int[] {-1, 2, 64, MIN, MAX}) {
            check.is("edgeStart", x.edgeStart(edge), -2);
            check.is("edgeLabel", x.edgeLabel(edge), -2);
            check.is("edgeEnd", x.edgeEnd(edge), -2);
        }
    }

    private static void power(Check check) {
        check.about("promise 14");
        ConstrainedCoder x = Calls.graph(1, 2, 1, 1, 0, 0, 0, 1, 1, 0, 1, 0, 1, 0);
        check.is("power(1)", x.power(1), 4);
        check.text("power 1 sorts by start", Calls.graphText(x), "1/2: 0-0-1 0-1-0 1-1-0 1-0-1");
        check.is("power(2)", x.power(2), 8);
        check.text("power 2", Calls.graphText(x),
            "2/2: 0-1-0 0-0-1 0-2-1 0-3-0 1-2-1 1-3-0 1-1-0 1-0-1");
        check.is("power(2) once more", x.power(2), 32);
        check.is("labelLength()", x.labelLength(), 4);
        check.is("power(2) of length 4", x.power(2), -3);
        check.is("power(1) of length 4", x.power(1), 32);
        x.loadRunLength(1, 3);
        check.is("power(3)", x.power(3), 12);
        check.text("power 3", Calls.graphText(x), "3/4: 0-0-3 0-1-0 0-2-1 1-1-0 1-2-1 1-4-2 1-5-0 2-2-1 2-4-2 2-5-0 "
            + "3-4-2 3-5-0");
        ConstrainedCoder y = Calls.graph(2, 3, 0, 1, 1, 1, 2, 2);
        check.is("power(2) of a chain", y.power(2), 1);
        check.text("chain", Calls.graphText(y), "4/3: 0-6-2");
        ConstrainedCoder empty = new ConstrainedCoder();
        check.is("power(4) of no states", empty.power(4), 0);
        check.text("no states", Calls.graphText(empty), "4/0:");
    }

    private static void powerLimits(Check check) {
        check.about("promise 14, limits");
        ConstrainedCoder x = Calls.loops(8);
        for (int q : new int[] {0, 5, -1, MIN, MAX}) {
            check.is("power out of range", x.power(q), -3);
        }
        check.is("power(2) of 8 loops", x.power(2), 64);
        ConstrainedCoder nine = Calls.loops(9);
        check.is("power(2) of 9 loops", nine.power(2), -4);
        check.text("graph after full", Calls.graphText(nine).substring(0, 4), "1/1:");
        check.is("edges after full", nine.edgeCount(), 9);
        check.is("power(4) of 64 loops", Calls.loops(64).power(4), -4);
        check.is("power(1) of 64 loops", Calls.loops(64).power(1), 64);
        ConstrainedCoder three = Calls.states(3, 1);
        check.is("length 3 times 2", three.power(2), -3);
        check.is("length 2 times 3", Calls.states(2, 1).power(3), -3);
        check.is("length 2 times 2", Calls.states(2, 1).power(2), 0);
        ConstrainedCoder two = Calls.states(2, 1);
        for (int i = 0; i < 64; i++) {
            two.addEdge(0, 0, 0);
        }
        check.is("a bad exponent comes before full", two.power(3), -3);
        // There are 256 paths of two edges, but none of three.
        ConstrainedCoder chain = Calls.states(1, 3);
        for (int i = 0; i < 32; i++) {
            chain.addEdge(i % 2, 0, i % 2 + 1);
        }
        check.is("power(2) of a wide chain", chain.power(2), -4);
        check.is("power(3) of a wide chain", chain.power(3), 0);
        check.text("wide chain", Calls.graphText(chain), "3/3:");
    }

    private static void split(Check check) {
        check.about("promise 15");
        ConstrainedCoder x = Calls.graph(2, 3, 1, 0, 0, 0, 1, 1, 0, 2, 2, 2, 3, 0, 0, 3, 1);
        check.is("split(0, 5)", x.split(0, 5), 3);
        check.text("graph", Calls.graphText(x), "2/4: 1-0-0 0-1-1 3-2-2 2-3-0 0-3-1 1-0-3 2-3-3");
        ConstrainedCoder y = Calls.graph(1, 2, 0, 0, 1, 0, 1, 1);
        check.is("split without incoming edges", y.split(0, 2), 2);
        check.text("graph", Calls.graphText(y), "1/3: 2-0-1 0-1-1");
    }

    private static void splitLoops(Check check) {
        check.about("promise 15, loops");
        ConstrainedCoder x = Calls.graph(1, 1, 0, 0, 0, 0, 1, 0);
        check.is("split(0, 1)", x.split(0, 1), 1);
        check.text("graph", Calls.graphText(x), "1/2: 0-0-0 1-1-0 0-0-1 1-1-1");
        ConstrainedCoder y = Calls.graph(1, 1, 0, 0, 0, 0, 1, 0);
        check.is("split(0, 2)", y.split(0, 2), 1);
        check.text("graph", Calls.graphText(y), "1/2: 1-0-0 0-1-0 1-0-1 0-1-1");
    }

    private static void splitErrors(Check check) {
        check.about("promise 15, errors");
        ConstrainedCoder x = Calls.graph(1, 2, 0, 0, 0, 0, 1, 1, 0, 1, 0, 1, 1, 0);
        for (int state : new int[] {-1, 2, MIN, MAX}) {
            check.is("no such state", x.split(state, 0), -1);
        }
        check.is("one edge", x.split(1, 1), -3);
        for (int mask : new int[] {0, -1, 7, 8, MIN, MAX}) {
            check.is("mask out of range", x.split(0, mask), -3);
        }
        check.is("graph after errors", x.edgeCount(), 4);
        check.is("the greatest mask", x.split(0, 6), 2);
        ConstrainedCoder states = Calls.states(1, 16);
        states.addEdge(0, 0, 1);
        check.is("one edge comes before full", states.split(0, 1), -3);
        states.addEdge(0, 1, 1);
        check.is("17 states", states.split(0, 1), -4);
        check.is("a bad mask comes before full", states.split(0, 3), -3);
        ConstrainedCoder edges = Calls.loops(33);
        check.is("66 edges", edges.split(0, 1), -4);
        check.is("edges after full", edges.edgeCount(), 33);
        check.is("states after full", edges.stateCount(), 1);
        edges.removeEdge(0);
        check.is("64 edges", edges.split(0, 1), 1);
        check.is("edgeCount()", edges.edgeCount(), 64);
    }

    private static void splitManyEdges(Check check) {
        check.about("promise 15, many edges");
        ConstrainedCoder x = Calls.states(1, 2);
        for (int i = 0; i < 64; i++) {
            x.addEdge(0, 0, 1);
        }
        check.is("mask 2^30 - 1", x.split(0, (1 << 30) - 1), -3);
        check.is("mask 2^30", x.split(0, 1 << 30), -3);
        check.is("mask 2^30 - 2", x.split(0, (1 << 30) - 2), 2);
        for (int e = 0; e < 64; e++) {
            check.is("start of edge " + e, x.edgeStart(e), e >= 1 && e <= 29 ? 0 : 2);
        }
        check.is("29 edges, mask 2^29 - 1", x.split(0, (1 << 29) - 1), -3);
        check.is("29 edges, mask 2^29 - 2", x.split(0, (1 << 29) - 2), 3);
        ConstrainedCoder y = Calls.states(1, 2);
        for (int i = 0; i < 33; i++) {
            y.addEdge(0, 0, 1);
        }
        check.is("mask 3 of 33 edges", y.split(0, 3), 2);
        check.is("start of edge 1", y.edgeStart(1), 0);
        check.is("start of edge 2", y.edgeStart(2), 2);
        check.is("start of edge 32", y.edgeStart(32), 2);
    }

    private static void isDeterministic(Check check) {
        check.about("promise 16");
        check.is("no states", new ConstrainedCoder().isDeterministic(), 1);
        check.is("run length", Calls.runLength(0, 7).isDeterministic(), 1);
        check.is("charge", Calls.charge(7).isDeterministic(), 1);
        ConstrainedCoder x = Calls.graph(1, 3, 0, 0, 1, 0, 1, 1, 1, 0, 0);
        check.is("different labels", x.isDeterministic(), 1);
        x.addEdge(2, 1, 0);
        x.addEdge(2, 1, 1);
        check.is("a state that none reaches counts", x.isDeterministic(), 0);
        x.removeEdge(4);
        check.is("after removal", x.isDeterministic(), 1);
        x.addEdge(0, 0, 1);
        check.is("the same edge twice", x.isDeterministic(), 0);
    }

    private static void isIrreducible(Check check) {
        check.about("promise 17");
        check.is("no states", new ConstrainedCoder().isIrreducible(), 0);
        ConstrainedCoder x = Calls.states(1, 1);
        check.is("one state without edges", x.isIrreducible(), 1);
        x.addState();
        check.is("two states without edges", x.isIrreducible(), 0);
        x.addEdge(0, 0, 1);
        check.is("one direction", x.isIrreducible(), 0);
        x.addEdge(1, 0, 0);
        check.is("both directions", x.isIrreducible(), 1);
        x.addState();
        x.addEdge(2, 0, 0);
        check.is("a state that none reaches", x.isIrreducible(), 0);
        check.is("charge", Calls.charge(7).isIrreducible(), 1);
        check.is("run length", Calls.runLength(3, 3).isIrreducible(), 1);
        ConstrainedCoder ring = Calls.states(1, 16);
        for (int i = 15; i > 0; i--) {
            ring.addEdge(i, 0, i - 1);
        }
        check.is("a chain of 16", ring.isIrreducible(), 0);
        ring.addEdge(0, 0, 15);
        check.is("a ring of 16", ring.isIrreducible(), 1);
    }

    private static void changesOfTheGraphLeaveTheWord(Check check) {
        check.about("promises 2 to 15, the word");
        ConstrainedCoder x = new ConstrainedCoder();
        Calls.setWord(x, "0110");
        x.loadRunLength(0, 1);
        x.loadCharge(1);
        x.addState();
        x.addEdge(0, 0, 0);
        x.removeEdge(0);
        x.power(2);
        x.split(1, 1);
        x.clear(2);
        Calls.parse(x, "rll 0 1");
        check.text("word", Calls.word(x), "0110");
    }
}
