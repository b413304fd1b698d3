/** Promises 27 to 32: counting, enumerative coding, growth and eigenvectors. */
final class CountingTest {
    private static final int MIN = Integer.MIN_VALUE;
    private static final int MAX = Integer.MAX_VALUE;

    private CountingTest() {
    }

    static void run(Check check) {
        countWords(check);
        countErrors(check);
        countOfEmptyWords(check);
        countAllWordsOfFortyBits(check);
        countInTheLastOfSixteenStates(check);
        unrank(check);
        unrankErrors(check);
        rank(check);
        rankErrors(check);
        rankAndUnrankAgree(check);
        growthRate(check);
        growthRateOfDyingGraphs(check);
        growthRateOfManyGraphs(check);
        eigenvectors(check);
        eigenvectorErrors(check);
        eigenvectorsFollowTheGraph(check);
    }

    private static ConstrainedCoder allLabels(int labelLength) {
        ConstrainedCoder x = Calls.states(labelLength, 1);
        for (int label = (1 << labelLength) - 1; label >= 0; label--) {
            x.addEdge(0, label, 0);
        }
        return x;
    }

    private static ConstrainedCoder notDeterministic() {
        return Calls.graph(1, 3, 0, 0, 0, 0, 1, 0, 2, 0, 0, 2, 0, 1);
    }

    private static void countWords(Check check) {
        check.about("promise 27");
        ConstrainedCoder x = Calls.runLength(0, 1);
        long[] fibonacci = {1, 2, 3, 5, 8, 13, 21, 34, 55, 89, 144};
        for (int labels = 0; labels <= 10; labels++) {
            check.is("words of rll 0 1", x.countWords(0, labels, -1), fibonacci[labels]);
        }
        check.is("from state 1", x.countWords(1, 3, -1), 3);
        check.is("four labels, three ones", x.countWords(0, 4, 3), 4);
        check.is("four labels, two ones", x.countWords(0, 4, 2), 3);
        check.is("four labels, one one", x.countWords(0, 4, 1), 0);
        check.is("four labels, four ones", x.countWords(0, 4, 4), 1);
        ConstrainedCoder charge = Calls.charge(2);
        check.is("charge, two of four ones", charge.countWords(2, 4, 2), 6);
        check.is("charge, all", charge.countWords(2, 4, -1), 12);
        ConstrainedCoder two = Calls.graph(2, 2, 0, 3, 1, 0, 1, 0, 1, 2, 0);
        check.is("long labels", two.countWords(0, 2, -1), 3);
        check.is("long labels, three ones", two.countWords(0, 2, 3), 2);
        check.is("long labels, two ones", two.countWords(0, 2, 2), 1);
    }

    private static void countErrors(Check check) {
        check.about("promise 27, errors");
        ConstrainedCoder x = Calls.runLength(1, 3);
        for (int start : new int[] {-1, 4, MIN, MAX}) {
            check.is("no such state", x.countWords(start, 11, -2), -1);
        }
        for (int labels : new int[] {-1, 11, MIN, MAX}) {
            check.is("labels out of range", x.countWords(0, labels, -1), -3);
        }
        for (int ones : new int[] {-2, MIN}) {
            check.is("ones out of range", x.countWords(0, 4, ones), -3);
        }
        check.is("more ones than bits", x.countWords(0, 4, 5), 0);
        check.is("41 ones", x.countWords(0, 10, 41), 0);
        check.is("very many ones", x.countWords(0, 10, MAX), 0);
        ConstrainedCoder y = notDeterministic();
        check.is("not deterministic elsewhere", y.countWords(0, 2, -1), -6);
        check.is("no such state comes first", y.countWords(3, 2, -1), -1);
        check.is("labels come before", y.countWords(0, 11, -1), -3);
        check.is("ones come before", y.countWords(0, 1, -2), -3);
        check.is("without states", new ConstrainedCoder().countWords(0, 0, -1), -1);
    }

    private static void countOfEmptyWords(Check check) {
        check.about("promise 27, no labels");
        ConstrainedCoder x = Calls.states(2, 1);
        check.is("the empty word", x.countWords(0, 0, -1), 1);
        check.is("without ones", x.countWords(0, 0, 0), 1);
        check.is("with a one", x.countWords(0, 0, 1), 0);
        check.is("a label that there is not", x.countWords(0, 1, -1), 0);
        check.is("unrank", x.unrank(0, 0, -1, 0), 0);
    }

    private static void countAllWordsOfFortyBits(Check check) {
        check.about("promises 27 to 29, forty bits");
        ConstrainedCoder x = allLabels(4);
        check.is("all words", x.countWords(0, 10, -1), 1L << 40);
        check.is("half ones", x.countWords(0, 10, 20), 137846528820L);
        check.is("all ones", x.countWords(0, 10, 40), 1);
        check.is("the last word", x.unrank(0, 10, -1, (1L << 40) - 1), 40);
        check.text("all ones", Calls.word(x), "1111111111111111111111111111111111111111");
        check.is("its rank", x.rank(0, 0), (1L << 40) - 1);
        check.is("its rank among its like", x.rank(0, 1), 0);
        check.is("one too far", x.unrank(0, 10, -1, 1L << 40), -5);
        check.is("the last of half ones", x.unrank(0, 10, 20, 137846528819L), 40);
        check.text("half ones", Calls.word(x), "1111111111111111111100000000000000000000");
        check.is("its rank among its like", x.rank(0, 1), 137846528819L);
        check.is("its rank", x.rank(0, 0), (1L << 40) - (1L << 20));
        check.is("one too far", x.unrank(0, 10, 20, 137846528820L), -5);
    }

    /** The greatest table of counts that there can be: all states, and words of forty bits. */
    private static void countInTheLastOfSixteenStates(Check check) {
        check.about("promises 27 to 29, sixteen states");
        ConstrainedCoder x = Calls.states(4, 16);
        for (int s = 0; s < 16; s++) {
            x.addEdge(s, 15, (s + 1) % 16);
            x.addEdge(s, 0, s);
        }
        for (int start : new int[] {0, 14, 15}) {
            check.is("all words", x.countWords(start, 10, -1), 1024);
            check.is("half ones", x.countWords(start, 10, 20), 252);
            check.is("all ones", x.countWords(start, 10, 40), 1);
            check.is("no whole label of ones", x.countWords(start, 10, 39), 0);
            check.is("the last of half ones", x.unrank(start, 10, 20, 251), 40);
            check.text("half ones", Calls.word(x), "1111111111111111111100000000000000000000");
            check.is("its rank among its like", x.rank(start, 1), 251);
            check.is("its rank", x.rank(start, 0), 992);
        }
    }

    private static void unrank(Check check) {
        check.about("promise 28");
        ConstrainedCoder x = Calls.runLength(1, 3);
        String[] words = {"0001", "0010", "0100", "0101"};
        for (int rank = 0; rank < 4; rank++) {
            check.is("unrank", x.unrank(0, 4, -1, rank), 4);
            check.text("the word of rank " + rank, Calls.word(x), words[rank]);
        }
        check.is("two ones", x.unrank(0, 4, 2, 0), 4);
        check.text("two ones", Calls.word(x), "0101");
        check.is("one one", x.unrank(0, 4, 1, 2), 4);
        check.text("one one", Calls.word(x), "0100");
        check.is("no labels", x.unrank(0, 0, -1, 0), 0);
        check.is("wordLength()", x.wordLength(), 0);
        // The order is that of the labels, not that of the edges.
        ConstrainedCoder y = allLabels(2);
        check.is("unrank", y.unrank(0, 2, -1, 9), 4);
        check.text("rank 9 of all words of four bits", Calls.word(y), "1001");
        check.is("unrank", y.unrank(0, 2, 2, 3), 4);
        check.text("rank 3 of two ones", Calls.word(y), "1001");
    }

    private static void unrankErrors(Check check) {
        check.about("promise 28, errors");
        ConstrainedCoder x = Calls.runLength(1, 3);
        Calls.setWord(x, "11");
        check.is("rank 4 of 4", x.unrank(0, 4, -1, 4), -5);
        check.is("rank -1", x.unrank(0, 4, -1, -1), -5);
        check.is("the least rank", x.unrank(0, 4, -1, Long.MIN_VALUE), -5);
        check.is("the greatest rank", x.unrank(0, 4, -1, Long.MAX_VALUE), -5);
        check.is("a rank of 2^32", x.unrank(0, 4, -1, 1L << 32), -5);
        check.is("rank 0 of none", x.unrank(0, 4, 4, 0), -5);
        check.is("very many ones", x.unrank(0, 10, MAX, 0), -5);
        check.is("no such state comes first", x.unrank(4, 11, -2, -1), -1);
        check.is("labels out of range", x.unrank(0, 11, -1, -1), -3);
        check.is("labels out of range", x.unrank(0, -1, -1, 0), -3);
        check.is("ones out of range", x.unrank(0, 4, -2, -1), -3);
        check.is("no labels, rank 1", x.unrank(0, 0, -1, 1), -5);
        check.is("no labels, a one", x.unrank(0, 0, 1, 0), -5);
        check.text("the word stays", Calls.word(x), "11");
        ConstrainedCoder y = notDeterministic();
        check.is("not deterministic", y.unrank(0, 2, -1, 0), -6);
        check.is("not deterministic comes before the rank", y.unrank(0, 2, -1, -1), -6);
        check.is("labels come before", y.unrank(0, 11, -1, 0), -3);
        check.is("ones come before", y.unrank(0, 1, -2, 0), -3);
        check.is("without states", new ConstrainedCoder().unrank(0, 0, -1, 0), -1);
    }

    private static void rank(Check check) {
        check.about("promise 29");
        ConstrainedCoder x = Calls.runLength(1, 3);
        check.is("the empty word", x.rank(0, 0), 0);
        check.is("the empty word of no ones", x.rank(3, 1), 0);
        Calls.setWord(x, "0101");
        check.is("rank", x.rank(0, 0), 3);
        check.is("rank among two ones", x.rank(0, 1), 0);
        Calls.setWord(x, "0100");
        check.is("rank", x.rank(0, 0), 2);
        check.is("rank among one one", x.rank(0, 1), 2);
        Calls.setWord(x, "1000");
        check.is("not from state 0", x.rank(0, 0), -5);
        check.is("from state 1", x.rank(1, 0), 3);
        ConstrainedCoder y = Calls.graph(2, 2, 0, 3, 1, 0, 1, 0, 1, 2, 0);
        Calls.setWord(y, "1110");
        check.is("long labels", y.rank(0, 0), 2);
        check.is("long labels, three ones", y.rank(0, 1), 1);
    }

    private static void rankErrors(Check check) {
        check.about("promise 29, errors");
        ConstrainedCoder x = Calls.runLength(0, 1);
        for (int start : new int[] {-1, 2, MIN, MAX}) {
            check.is("no such state", x.rank(start, 2), -1);
        }
        for (int onesOnly : new int[] {-1, 2, MIN, MAX}) {
            check.is("onesOnly out of range", x.rank(0, onesOnly), -3);
        }
        Calls.setWord(x, "1111111111");
        check.is("ten labels", x.rank(0, 0), 143);
        x.appendBit(1);
        check.is("eleven labels", x.rank(0, 0), -5);
        Calls.setWord(x, "00");
        check.is("a word that is not generated", x.rank(0, 0), -5);
        ConstrainedCoder y = notDeterministic();
        check.is("not deterministic", y.rank(0, 0), -6);
        check.is("onesOnly comes before", y.rank(0, 2), -3);
        check.is("no such state comes before", y.rank(3, 0), -1);
        y.appendBit(1);
        check.is("not deterministic comes before none", y.rank(1, 0), -6);
        ConstrainedCoder z = allLabels(2);
        Calls.setWord(z, "010");
        check.is("a length that is no multiple", z.rank(0, 0), -5);
        check.is("without states", new ConstrainedCoder().rank(0, 0), -1);
    }

    private static void rankAndUnrankAgree(Check check) {
        check.about("promises 27 to 29, there and back");
        for (int ones = -1; ones <= 8; ones++) {
            long count = chargeInPairs().countWords(3, 4, ones);
            String before = "";
            for (long rank = 0; rank < count; rank++) {
                ConstrainedCoder x = chargeInPairs();
                check.is("unrank", x.unrank(3, 4, ones, rank), 8);
                check.is("rank", x.rank(3, ones < 0 ? 0 : 1), rank);
                check.holds("the words rise", before.compareTo(Calls.word(x)) < 0);
                before = Calls.word(x);
            }
        }
    }

    private static ConstrainedCoder chargeInPairs() {
        ConstrainedCoder x = Calls.charge(3);
        x.power(2);
        return x;
    }

    private static void growthRate(Check check) {
        check.about("promise 30");
        ConstrainedCoder x = Calls.runLength(1, 3);
        check.is("growthRate(20)", x.growthRate(20), 4609279129357981676L);
        check.is("growthRate(1)", x.growthRate(1), Double.doubleToLongBits(2.0));
        check.is("growthRate(2)", x.growthRate(2), Double.doubleToLongBits(1.5));
        for (int iterations : new int[] {0, 101, -1, MIN, MAX}) {
            check.is("out of range", x.growthRate(iterations), -3);
            check.is("out of range, no states", new ConstrainedCoder().growthRate(iterations), -3);
        }
        check.is("without states", new ConstrainedCoder().growthRate(100), 0);
        for (int loops = 1; loops <= 64; loops++) {
            check.is("loops", Calls.loops(loops).growthRate(100), Double.doubleToLongBits(loops));
        }
    }

    private static void growthRateOfDyingGraphs(Check check) {
        check.about("promise 30, dying graphs");
        check.is("no edges", Calls.states(1, 3).growthRate(1), 0);
        ConstrainedCoder chain = Calls.graph(1, 4, 0, 0, 1, 1, 0, 2, 2, 0, 3);
        check.is("three steps", chain.growthRate(3), Double.doubleToLongBits(1.0));
        check.is("four steps", chain.growthRate(4), 0);
        check.is("a hundred steps", chain.growthRate(100), 0);
        for (int iterations = 1; iterations <= 100; iterations++) {
            ConstrainedCoder x = fadingPaths(3);
            x.removeEdge(1);
            check.is("growth", x.growthRate(iterations), plainGrowth(x, iterations));
            ConstrainedCoder y = fadingPaths(2);
            check.is("a rate below 1", y.growthRate(iterations), plainGrowth(y, iterations));
        }
    }

    /** Many paths over so many steps end at a state with a loop, which alone goes on. */
    private static ConstrainedCoder fadingPaths(int steps) {
        ConstrainedCoder x = Calls.graph(1, 4, 3, 0, 3);
        for (int i = 0; i < 60; i++) {
            x.addEdge(i % steps, 0, i % steps + 1);
        }
        return x;
    }

    private static void growthRateOfManyGraphs(Check check) {
        check.about("promise 30, many graphs");
        for (int d = 0; d <= 7; d++) {
            for (int k = d; k <= 7; k++) {
                for (int iterations : new int[] {1, 2, 3, 7, 50, 100}) {
                    ConstrainedCoder x = Calls.runLength(d, k);
                    check.is("rll " + d + " " + k, x.growthRate(iterations), plainGrowth(x, iterations));
                }
            }
        }
        for (int c = 1; c <= 7; c++) {
            ConstrainedCoder x = Calls.charge(c);
            check.is("charge " + c, x.growthRate(33), plainGrowth(x, 33));
        }
    }

    private static long plainGrowth(ConstrainedCoder x, int iterations) {
        double[] old = new double[x.stateCount()];
        java.util.Arrays.fill(old, 1.0);
        int[][] edges = new int[x.edgeCount()][];
        for (int e = 0; e < edges.length; e++) {
            edges[e] = new int[] {x.edgeStart(e), x.edgeEnd(e)};
        }
        double most = 0.0;
        for (int i = 0; i < iterations; i++) {
            double[] sums = new double[old.length];
            for (int[] edge : edges) {
                sums[edge[0]] += old[edge[1]];
            }
            most = 0.0;
            for (double sum : sums) {
                most = Math.max(most, sum);
            }
            for (int s = 0; s < old.length; s++) {
                old[s] = most > 0.0 ? sums[s] / most : sums[s];
            }
        }
        return Double.doubleToLongBits(most);
    }

    private static void checkVector(Check check, ConstrainedCoder x, int p, int bound, int... elements) {
        check.is("eigenvectorBound(" + p + ")", x.eigenvectorBound(p), bound);
        for (int s = 0; s < elements.length; s++) {
            check.is("eigenvectorElement(" + p + ", " + s + ")", x.eigenvectorElement(p, s), elements[s]);
        }
    }

    private static void eigenvectors(Check check) {
        check.about("promises 31 and 32");
        ConstrainedCoder x = Calls.runLength(0, 1);
        checkVector(check, x, 1, -5, -5, -5);
        x.power(2);
        checkVector(check, x, 1, 1, 1, 1);
        checkVector(check, x, 2, -5, -5, -5);
        x.loadRunLength(0, 1);
        x.power(3);
        // From state 0 five paths, 3 to 0 and 2 to 1; from state 1 three paths, 2 to 0 and 1 to 1: (2, 1) is it.
        checkVector(check, x, 2, 2, 2, 1);
        ConstrainedCoder loops = Calls.loops(16);
        for (int p = 1; p <= 4; p++) {
            checkVector(check, loops, p, 1, 1);
        }
        loops.removeEdge(0);
        checkVector(check, loops, 4, -5, -5);
        checkVector(check, loops, 3, 1, 1);
        // A state without edges gets 0, and so does one that leads only there.
        ConstrainedCoder y = Calls.graph(1, 4, 0, 0, 0, 0, 1, 0, 2, 0, 1, 2, 1, 1, 3, 0, 0, 3, 1, 0);
        checkVector(check, y, 1, 1, 1, 0, 0, 1);
        // The bound 32 is still tried: a state gains one part in 32 only.
        checkVector(check, narrow(32), 1, 32, 32, 16, 8, 4, 2, 1);
        checkVector(check, Calls.states(1, 2), 1, -5, -5, -5);
        check.is("without states", new ConstrainedCoder().eigenvectorBound(1), -5);
    }

    /** A state whose vector must be as great as a power of 2 for the others to have a whole number. */
    private static ConstrainedCoder narrow(int bound) {
        ConstrainedCoder x = Calls.states(1, 1);
        int state = 0;
        for (int rest = bound; rest > 1; rest /= 2) {
            int next = x.addState();
            x.addEdge(next, 0, state);
            state = next;
        }
        x.addEdge(0, 0, 0);
        for (int s = 1; s <= state; s++) {
            x.addEdge(0, 0, s);
        }
        x.addEdge(0, 0, state);
        return x;
    }

    private static void eigenvectorErrors(Check check) {
        check.about("promises 31 and 32, errors");
        ConstrainedCoder x = Calls.loops(2);
        for (int p : new int[] {0, 5, -1, MIN, MAX}) {
            check.is("p out of range", x.eigenvectorBound(p), -3);
            check.is("p out of range comes first", x.eigenvectorElement(p, 1), -3);
        }
        for (int state : new int[] {-1, 1, MIN, MAX}) {
            check.is("no such state", x.eigenvectorElement(1, state), -1);
            check.is("no such state comes before none", x.eigenvectorElement(4, state), -1);
        }
        check.is("none", x.eigenvectorElement(4, 0), -5);
        check.is("without states", new ConstrainedCoder().eigenvectorElement(1, 0), -1);
        check.is("without states, p", new ConstrainedCoder().eigenvectorElement(0, 0), -3);
    }

    /** Each change of the graph is followed by a question whose answer it changes. */
    private static void eigenvectorsFollowTheGraph(Check check) {
        check.about("promises 31 and 32, after changes");
        ConstrainedCoder x = Calls.loops(1);
        check.is("one loop", x.eigenvectorBound(1), -5);
        x.addEdge(0, 1, 0);
        check.is("addEdge", x.eigenvectorBound(1), 1);
        x.saveSnapshot();
        x.addState();
        check.is("addState", x.eigenvectorElement(1, 1), 0);
        x.removeEdge(0);
        check.is("removeEdge", x.eigenvectorBound(1), -5);
        x.restoreSnapshot();
        check.is("restoreSnapshot", x.eigenvectorBound(1), 1);
        check.is("before power", x.eigenvectorBound(2), -5);
        x.power(2);
        check.is("power", x.eigenvectorBound(2), 1);
        x.loadRunLength(0, 1);
        check.is("loadRunLength", x.eigenvectorBound(1), -5);
        x.restoreSnapshot();
        check.is("restoreSnapshot", x.eigenvectorBound(1), 1);
        x.loadCharge(1);
        check.is("loadCharge", x.eigenvectorBound(1), -5);
        x.restoreSnapshot();
        check.is("restoreSnapshot", x.eigenvectorBound(1), 1);
        Calls.parse(x, "rll 0 1");
        check.is("parseConstraint", x.eigenvectorBound(1), -5);
        x.restoreSnapshot();
        check.is("restoreSnapshot", x.eigenvectorBound(1), 1);
        x.clear(1);
        check.is("clear", x.eigenvectorBound(1), -5);
        ConstrainedCoder y = Calls.runLength(0, 1);
        y.power(3);
        check.is("before split", y.eigenvectorElement(2, 0), 2);
        check.is("before split", y.eigenvectorBound(2), 2);
        y.split(0, 3);
        check.is("split", y.eigenvectorBound(2), PlainModel.of(y).eigenvectorBound(2));
        for (int s = 0; s < y.stateCount(); s++) {
            check.is("split", y.eigenvectorElement(2, s), PlainModel.of(y).eigenvectorElement(2, s));
        }
    }
}
