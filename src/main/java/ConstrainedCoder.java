import java.util.Arrays;

/**
 * A toolkit for constrained binary codes: labelled graphs, counting and enumerative coding of constrained words,
 * Knuth balancing, growth rates, approximate eigenvectors, state splitting and finite-state encoders.
 *
 * <p>No method throws. All rows are made once, with the object, and are used again by every call.
 */
public final class ConstrainedCoder {
    public static final int NO_SUCH_STATE = -1;
    public static final int NO_SUCH_EDGE = -2;
    public static final int BAD_VALUE = -3;
    public static final int FULL = -4;
    public static final int NONE = -5;
    public static final int NOT_DETERMINISTIC = -6;
    public static final int NOT_AN_ENCODER = -7;
    public static final int ODD_LENGTH = -8;
    public static final int NO_SUCH_SLOT = -9;
    public static final int EMPTY_SLOT = -10;
    public static final int INDEX_OUT_OF_RANGE = -11;
    public static final int NEGATIVE_LENGTH = -12;
    public static final int SYNTAX_ERROR = -100;

    private final Graph graph;
    private final Word word;
    private final ConstraintText input;
    private final PowerBuilder powers;
    private final WordCounter counter;
    private final GrowthEstimator growth;
    private final EigenvectorFinder eigenvectors;
    private final Encoder encoder;
    private final AnticipationFinder anticipations;
    private final Slots slots;
    private final Graph savedGraph;
    private final Word savedWord;
    private boolean snapshotSaved;

    public ConstrainedCoder() {
        graph = new Graph();
        word = new Word();
        input = new ConstraintText();
        powers = new PowerBuilder();
        counter = new WordCounter();
        growth = new GrowthEstimator();
        eigenvectors = new EigenvectorFinder();
        encoder = new Encoder();
        anticipations = new AnticipationFinder();
        slots = new Slots();
        savedGraph = new Graph();
        savedWord = new Word();
        snapshotSaved = false;
    }

    // ---- the graph

    public int loadRunLength(int d, int k) {
        return afterGraphChange(graph.becomeRunLength(d, k));
    }

    public int loadCharge(int c) {
        return afterGraphChange(graph.becomeCharge(c));
    }

    public int clear(int labelLength) {
        return afterGraphChange(graph.becomeEmpty(labelLength));
    }

    public int addState() {
        return afterGraphChange(graph.appendState());
    }

    public int addEdge(int from, int label, int to) {
        return afterGraphChange(graph.appendEdge(from, label, to));
    }

    public int removeEdge(int edge) {
        return afterGraphChange(graph.dropEdge(edge));
    }

    public int stateCount() {
        return graph.states();
    }

    public int edgeCount() {
        return graph.edges();
    }

    public int labelLength() {
        return graph.labelBits();
    }

    public int edgeStart(int edge) {
        return graph.hasEdge(edge) ? graph.startOf(edge) : NO_SUCH_EDGE;
    }

    public int edgeLabel(int edge) {
        return graph.hasEdge(edge) ? graph.labelOf(edge) : NO_SUCH_EDGE;
    }

    public int edgeEnd(int edge) {
        return graph.hasEdge(edge) ? graph.endOf(edge) : NO_SUCH_EDGE;
    }

    public int power(int q) {
        return afterGraphChange(powers.raise(graph, q));
    }

    public int split(int state, int mask) {
        return afterGraphChange(graph.splitState(state, mask));
    }

    public int isDeterministic() {
        return graph.deterministic() ? 1 : 0;
    }

    public int isIrreducible() {
        return graph.irreducible() ? 1 : 0;
    }

    /** Every change of the graph turns the encoder off and makes the eigenvectors found so far worthless. */
    private int afterGraphChange(int answer) {
        if (answer >= 0) {
            encoder.turnOff();
            eigenvectors.forget();
        }
        return answer;
    }

    // ---- text

    public int appendCharacter(int character) {
        return input.append(character);
    }

    public int parseConstraint() {
        return afterGraphChange(input.applyTo(graph));
    }

    // ---- the current word

    public int appendBit(int bit) {
        return word.append(bit);
    }

    public int clearWord() {
        int length = word.length();
        word.makeEmpty();
        return length;
    }

    public int wordLength() {
        return word.length();
    }

    public int wordBit(int index) {
        return word.bit(index);
    }

    public int firstViolation(int start) {
        return graph.firstUngeneratedLabel(start, word);
    }

    public int balance() {
        return word.balanceByPrefix();
    }

    public int invert(int count) {
        return word.invertPrefix(count);
    }

    // ---- counting and enumerative coding

    public long countWords(int start, int labels, int ones) {
        return counter.numberOfWords(graph, start, labels, ones);
    }

    public int unrank(int start, int labels, int ones, long rank) {
        return counter.writeWordOfRank(graph, word, start, labels, ones, rank);
    }

    public long rank(int start, int onesOnly) {
        return counter.rankOfWord(graph, word, start, onesOnly);
    }

    // ---- growth and eigenvectors

    public long growthRate(int iterations) {
        return growth.rateBits(graph, iterations);
    }

    public int eigenvectorElement(int p, int state) {
        if (!isDataLength(p)) {
            return BAD_VALUE;
        }
        if (!graph.hasState(state)) {
            return NO_SUCH_STATE;
        }
        eigenvectors.find(graph, p);
        return eigenvectors.foundElement(p, state);
    }

    public int eigenvectorBound(int p) {
        if (!isDataLength(p)) {
            return BAD_VALUE;
        }
        eigenvectors.find(graph, p);
        return eigenvectors.foundBound(p);
    }

    // ---- encoders

    public int isEncoder(int p) {
        if (!isDataLength(p)) {
            return BAD_VALUE;
        }
        return graph.hasEdgesForAll(p) ? 1 : 0;
    }

    public int startEncoder(int p, int start) {
        if (!isDataLength(p)) {
            return BAD_VALUE;
        }
        return encoder.turnOn(graph, p, start);
    }

    public int encode(int data) {
        return encoder.write(graph, word, data);
    }

    public int encoderState() {
        return encoder.state();
    }

    public int anticipation() {
        return anticipations.smallest(graph);
    }

    public int decode(int index) {
        return encoder.read(graph, word, index);
    }

    // ---- arrays

    public int newArray(int slot, int length) {
        return slots.make(slot, length);
    }

    public int setElement(int slot, int index, int value) {
        return slots.put(slot, index, value);
    }

    public int element(int slot, int index) {
        return slots.get(slot, index);
    }

    public int firstDifference(int slot, int p) {
        if (!slots.hasSlot(slot)) {
            return NO_SUCH_SLOT;
        }
        if (!isDataLength(p)) {
            return BAD_VALUE;
        }
        eigenvectors.find(graph, p);
        return slots.firstUnequal(slot, eigenvectors, p);
    }

    // ---- snapshot

    public int saveSnapshot() {
        savedGraph.becomeCopyOf(graph);
        savedWord.becomeCopyOf(word);
        snapshotSaved = true;
        return graph.states();
    }

    public int restoreSnapshot() {
        if (!snapshotSaved) {
            return NONE;
        }
        graph.becomeCopyOf(savedGraph);
        word.becomeCopyOf(savedWord);
        return afterGraphChange(graph.states());
    }

    private static boolean isDataLength(int p) {
        return p >= 1 && p <= Encoder.MAX_DATA_LENGTH;
    }

    /** The labelled graph. */
    static final class Graph {
        static final int MAX_STATES = 16;
        static final int MAX_EDGES = 64;
        static final int MAX_LABEL_BITS = 4;
        private static final int MAX_LIMIT = 7;
        private static final int MAX_MASK_BITS = 30;

        private final int[] starts = new int[MAX_EDGES];
        private final int[] labels = new int[MAX_EDGES];
        private final int[] ends = new int[MAX_EDGES];
        private final int[] reached = new int[MAX_STATES];
        private int states = 0;
        private int edges = 0;
        private int labelBits = 1;

        int states() {
            return states;
        }

        int edges() {
            return edges;
        }

        int labelBits() {
            return labelBits;
        }

        boolean hasState(int state) {
            return state >= 0 && state < states;
        }

        boolean hasEdge(int edge) {
            return edge >= 0 && edge < edges;
        }

        int startOf(int edge) {
            return hasEdge(edge) ? starts[edge] : 0;
        }

        int labelOf(int edge) {
            return hasEdge(edge) ? labels[edge] : 0;
        }

        int endOf(int edge) {
            return hasEdge(edge) ? ends[edge] : 0;
        }

        int becomeEmpty(int newLabelBits) {
            if (newLabelBits < 1 || newLabelBits > MAX_LABEL_BITS) {
                return BAD_VALUE;
            }
            int before = edges;
            states = 0;
            edges = 0;
            labelBits = newLabelBits;
            return before;
        }

        int becomeRunLength(int d, int k) {
            if (d < 0 || d > k || k > MAX_LIMIT) {
                return BAD_VALUE;
            }
            becomeEmpty(1);
            states = k + 1;
            for (int i = 0; i <= k; i++) {
                if (i < k) {
                    appendEdge(i, 0, i + 1);
                }
                if (i >= d) {
                    appendEdge(i, 1, 0);
                }
            }
            return states;
        }

        int becomeCharge(int c) {
            if (c < 1 || c > MAX_LIMIT) {
                return BAD_VALUE;
            }
            becomeEmpty(1);
            states = 2 * c + 1;
            for (int i = 0; i <= 2 * c; i++) {
                if (i > 0) {
                    appendEdge(i, 0, i - 1);
                }
                if (i < 2 * c) {
                    appendEdge(i, 1, i + 1);
                }
            }
            return states;
        }

        void becomeCopyOf(Graph other) {
            System.arraycopy(other.starts, 0, starts, 0, MAX_EDGES);
            System.arraycopy(other.labels, 0, labels, 0, MAX_EDGES);
            System.arraycopy(other.ends, 0, ends, 0, MAX_EDGES);
            states = other.states;
            edges = other.edges;
            labelBits = other.labelBits;
        }

        /** Keeps the states and takes labels of another length; the caller appends the new edges. */
        void dropAllEdges(int newLabelBits) {
            edges = 0;
            labelBits = newLabelBits;
        }

        int appendState() {
            if (states >= MAX_STATES) {
                return FULL;
            }
            int created = states;
            states++;
            return created;
        }

        int appendEdge(int from, int label, int to) {
            if (!hasState(from) || !hasState(to)) {
                return NO_SUCH_STATE;
            }
            if (label < 0 || label >= 1 << labelBits) {
                return BAD_VALUE;
            }
            if (edges >= MAX_EDGES) {
                return FULL;
            }
            int created = edges;
            starts[created] = from;
            labels[created] = label;
            ends[created] = to;
            edges++;
            return created;
        }

        int dropEdge(int edge) {
            if (!hasEdge(edge)) {
                return NO_SUCH_EDGE;
            }
            for (int e = edge; e + 1 < edges; e++) {
                starts[e] = starts[e + 1];
                labels[e] = labels[e + 1];
                ends[e] = ends[e + 1];
            }
            edges--;
            return edges;
        }

        int outDegree(int state) {
            int count = 0;
            for (int e = 0; e < edges; e++) {
                if (starts[e] == state) {
                    count++;
                }
            }
            return count;
        }

        private int inDegree(int state) {
            int count = 0;
            for (int e = 0; e < edges; e++) {
                if (ends[e] == state) {
                    count++;
                }
            }
            return count;
        }

        boolean hasEdgesForAll(int dataLength) {
            for (int s = 0; s < states; s++) {
                if (outDegree(s) < 1 << dataLength) {
                    return false;
                }
            }
            return states > 0;
        }

        int splitState(int state, int mask) {
            if (!hasState(state)) {
                return NO_SUCH_STATE;
            }
            int degree = outDegree(state);
            int maskBits = Math.min(degree, MAX_MASK_BITS);
            if (degree < 2 || mask < 1 || mask > (1 << maskBits) - 2) {
                return BAD_VALUE;
            }
            if (states >= MAX_STATES || edges + inDegree(state) > MAX_EDGES) {
                return FULL;
            }
            int created = appendState();
            moveEdgesOutsideMask(state, mask, created);
            copyIncomingEdges(state, created);
            return created;
        }

        private void moveEdgesOutsideMask(int state, int mask, int target) {
            int position = 0;
            for (int e = 0; e < edges; e++) {
                if (starts[e] == state) {
                    // Java takes a shift modulo 32, so the positions beyond the mask are asked for first.
                    boolean kept = position < MAX_MASK_BITS && (mask >> position & 1) == 1;
                    if (!kept) {
                        starts[e] = target;
                    }
                    position++;
                }
            }
        }

        private void copyIncomingEdges(int state, int target) {
            int before = edges;
            for (int e = 0; e < before; e++) {
                if (ends[e] == state) {
                    appendEdge(starts[e], labels[e], target);
                }
            }
        }

        boolean deterministic() {
            for (int e = 0; e < edges; e++) {
                for (int f = e + 1; f < edges; f++) {
                    if (starts[e] == starts[f] && labels[e] == labels[f]) {
                        return false;
                    }
                }
            }
            return true;
        }

        boolean irreducible() {
            if (states < 1) {
                return false;
            }
            closeReachedStates();
            int all = (1 << states) - 1;
            for (int s = 0; s < states; s++) {
                if (reached[s] != all) {
                    return false;
                }
            }
            return true;
        }

        /** Leaves in each row of reached the set of the states to which a path leads, as a mask. */
        private void closeReachedStates() {
            for (int s = 0; s < states; s++) {
                reached[s] = 1 << s;
            }
            for (int e = 0; e < edges; e++) {
                reached[starts[e]] |= 1 << ends[e];
            }
            for (int via = 0; via < states; via++) {
                for (int s = 0; s < states; s++) {
                    if ((reached[s] >> via & 1) == 1) {
                        reached[s] |= reached[via];
                    }
                }
            }
        }

        /** The first edge of a state with a label, or NONE; a deterministic graph has at most one. */
        int edgeWithLabel(int state, int label) {
            for (int e = 0; e < edges; e++) {
                if (starts[e] == state && labels[e] == label) {
                    return e;
                }
            }
            return NONE;
        }

        int firstUngeneratedLabel(int start, Word word) {
            if (!hasState(start)) {
                return NO_SUCH_STATE;
            }
            int whole = word.wholeLabels(labelBits);
            int current = 1 << start;
            for (int m = 0; m < whole; m++) {
                current = successors(current, word.labelAt(m, labelBits));
                if (current == 0) {
                    return m;
                }
            }
            return whole * labelBits < word.length() ? whole : NONE;
        }

        private int successors(int stateMask, int label) {
            int next = 0;
            for (int e = 0; e < edges; e++) {
                if (labels[e] == label && (stateMask >> starts[e] & 1) == 1) {
                    next |= 1 << ends[e];
                }
            }
            return next;
        }
    }

    /** A word of at most 40 bits. */
    static final class Word {
        static final int MAX_BITS = 40;

        private final int[] bits = new int[MAX_BITS];
        private int length = 0;

        int length() {
            return length;
        }

        boolean hasIndex(int index) {
            return index >= 0 && index < length;
        }

        boolean hasRoom(int more) {
            return length + more <= MAX_BITS;
        }

        int bit(int index) {
            return hasIndex(index) ? bits[index] : NONE;
        }

        void makeEmpty() {
            length = 0;
        }

        int append(int bit) {
            if (bit != 0 && bit != 1) {
                return BAD_VALUE;
            }
            if (!hasRoom(1)) {
                return FULL;
            }
            bits[length] = bit;
            length++;
            return length;
        }

        void appendLabel(int label, int labelBits) {
            for (int i = labelBits - 1; i >= 0; i--) {
                append(label >> i & 1);
            }
        }

        int wholeLabels(int labelBits) {
            return labelBits < 1 ? 0 : length / labelBits;
        }

        boolean isMultipleOf(int labelBits) {
            return wholeLabels(labelBits) * labelBits == length;
        }

        int labelAt(int index, int labelBits) {
            int first = index * labelBits;
            int label = 0;
            for (int i = first; i < first + labelBits; i++) {
                label = label * 2 + (hasIndex(i) ? bits[i] : 0);
            }
            return label;
        }

        int ones() {
            int count = 0;
            for (int i = 0; i < length; i++) {
                count += bits[i];
            }
            return count;
        }

        int invertPrefix(int count) {
            if (count < 0 || count > length) {
                return BAD_VALUE;
            }
            for (int i = 0; i < count; i++) {
                bits[i] = 1 - bits[i];
            }
            return ones();
        }

        int balanceByPrefix() {
            if ((length & 1) == 1) {
                return ODD_LENGTH;
            }
            int excess = 2 * ones() - length;
            int inverted = 0;
            // Each bit moves the excess by 2, and all bits make it its own negative: it meets 0 on the way.
            for (int i = 0; i < length && excess != 0; i++) {
                excess += bits[i] == 1 ? -2 : 2;
                inverted++;
            }
            invertPrefix(inverted);
            return inverted;
        }

        void becomeCopyOf(Word other) {
            System.arraycopy(other.bits, 0, bits, 0, MAX_BITS);
            length = other.length;
        }
    }

    /** The input, and the texts that name a constraint. */
    static final class ConstraintText {
        private static final int MAX_CHARACTERS = 20;
        private static final int FIRST_CHARACTER = 32;
        private static final int LAST_CHARACTER = 126;
        // In a form, # stands for any decimal digit.
        private static final String RUN_LENGTH_FORM = "rll # #";
        private static final String CHARGE_FORM = "charge #";

        private final int[] characters = new int[MAX_CHARACTERS];
        private int length = 0;

        int append(int character) {
            if (character < FIRST_CHARACTER || character > LAST_CHARACTER) {
                return BAD_VALUE;
            }
            if (length >= MAX_CHARACTERS) {
                return FULL;
            }
            characters[length] = character;
            length++;
            return length;
        }

        int applyTo(Graph graph) {
            int answer = loadNamed(graph);
            length = 0;
            return answer;
        }

        private int loadNamed(Graph graph) {
            int runLengthMatch = matchedBy(RUN_LENGTH_FORM);
            int chargeMatch = matchedBy(CHARGE_FORM);
            if (length == RUN_LENGTH_FORM.length() && runLengthMatch == length) {
                return graph.becomeRunLength(digitAt(4), digitAt(6));
            }
            if (length == CHARGE_FORM.length() && chargeMatch == length) {
                return graph.becomeCharge(digitAt(7));
            }
            return SYNTAX_ERROR - Math.max(runLengthMatch, chargeMatch);
        }

        /** The number of characters of the input, from its beginning on, with which a text of the form starts. */
        private int matchedBy(String form) {
            int limit = Math.min(length, form.length());
            int matched = 0;
            while (matched < limit && fits(form.charAt(matched), characters[matched])) {
                matched++;
            }
            return matched;
        }

        private static boolean fits(char wanted, int character) {
            if (wanted == '#') {
                return character >= '0' && character <= '9';
            }
            return character == wanted;
        }

        private int digitAt(int index) {
            return index >= 0 && index < length ? characters[index] - '0' : 0;
        }
    }

    /** Makes powers of a graph. */
    static final class PowerBuilder {
        private static final int MAX_EXPONENT = 4;

        private final int[][] pathCounts = new int[MAX_EXPONENT + 1][Graph.MAX_STATES];
        private final int[] starts = new int[Graph.MAX_EDGES];
        private final int[] labels = new int[Graph.MAX_EDGES];
        private final int[] ends = new int[Graph.MAX_EDGES];
        private final int[] longerStarts = new int[Graph.MAX_EDGES];
        private final int[] longerLabels = new int[Graph.MAX_EDGES];
        private final int[] longerEnds = new int[Graph.MAX_EDGES];
        private int paths = 0;
        private int longerPaths = 0;

        int raise(Graph graph, int q) {
            if (q < 1 || q > MAX_EXPONENT || graph.labelBits() * q > Graph.MAX_LABEL_BITS) {
                return BAD_VALUE;
            }
            countPaths(graph, q);
            if (totalOfPaths(graph, q) > Graph.MAX_EDGES) {
                return FULL;
            }
            listEmptyPaths(graph, q);
            for (int remaining = q - 1; remaining >= 0; remaining--) {
                extendPaths(graph, remaining);
            }
            graph.dropAllEdges(graph.labelBits() * q);
            for (int i = 0; i < paths; i++) {
                graph.appendEdge(starts[i], labels[i], ends[i]);
            }
            return graph.edges();
        }

        /** Leaves in pathCounts[r][s] the number of the paths of r edges that start at s. */
        private void countPaths(Graph graph, int q) {
            Arrays.fill(pathCounts[0], 1);
            for (int r = 1; r <= q; r++) {
                Arrays.fill(pathCounts[r], 0);
                for (int e = 0; e < graph.edges(); e++) {
                    pathCounts[r][graph.startOf(e)] += pathCounts[r - 1][graph.endOf(e)];
                }
            }
        }

        private int totalOfPaths(Graph graph, int q) {
            int total = 0;
            for (int s = 0; s < graph.states(); s++) {
                total += pathCounts[q][s];
            }
            return total;
        }

        /**
         * Only beginnings of paths of q edges are ever listed, so that there are never more of them than of the
         * paths themselves, for which there is room.
         */
        private void listEmptyPaths(Graph graph, int q) {
            paths = 0;
            for (int s = 0; s < graph.states(); s++) {
                if (pathCounts[q][s] > 0) {
                    starts[paths] = s;
                    labels[paths] = 0;
                    ends[paths] = s;
                    paths++;
                }
            }
        }

        private void extendPaths(Graph graph, int remaining) {
            longerPaths = 0;
            for (int i = 0; i < paths; i++) {
                for (int e = 0; e < graph.edges(); e++) {
                    if (graph.startOf(e) == ends[i] && pathCounts[remaining][graph.endOf(e)] > 0) {
                        appendLonger(starts[i], labels[i] << graph.labelBits() | graph.labelOf(e), graph.endOf(e));
                    }
                }
            }
            System.arraycopy(longerStarts, 0, starts, 0, longerPaths);
            System.arraycopy(longerLabels, 0, labels, 0, longerPaths);
            System.arraycopy(longerEnds, 0, ends, 0, longerPaths);
            paths = longerPaths;
        }

        private void appendLonger(int start, int label, int end) {
            if (longerPaths < Graph.MAX_EDGES) {
                longerStarts[longerPaths] = start;
                longerLabels[longerPaths] = label;
                longerEnds[longerPaths] = end;
                longerPaths++;
            }
        }
    }

    /** Counts the words of a deterministic graph, and goes from ranks to words and back. */
    static final class WordCounter {
        private static final int MAX_LABELS = 10;
        private static final int ANY = -1;
        private static final int WIDTH = Word.MAX_BITS + 1;

        /** counts[r][s * WIDTH + o]: the number of words of r labels and weight o that s generates. */
        private final long[][] counts = new long[MAX_LABELS + 1][Graph.MAX_STATES * WIDTH];
        /** Without it all labels weigh 0, and the words of weight 0 are all words. */
        private boolean onesWeigh = false;

        long numberOfWords(Graph graph, int start, int labels, int ones) {
            int problem = problemOf(graph, start, labels, ones);
            if (problem < 0) {
                return problem;
            }
            countAll(graph, labels, ones != ANY);
            return countAt(labels, start, Math.max(ones, 0));
        }

        int writeWordOfRank(Graph graph, Word word, int start, int labels, int ones, long rank) {
            int problem = problemOf(graph, start, labels, ones);
            if (problem < 0) {
                return problem;
            }
            countAll(graph, labels, ones != ANY);
            if (rank < 0 || rank >= countAt(labels, start, Math.max(ones, 0))) {
                return NONE;
            }
            word.makeEmpty();
            int state = start;
            int weight = Math.max(ones, 0);
            long left = rank;
            for (int r = labels - 1; r >= 0; r--) {
                int label = 0;
                long passed = countThrough(graph, state, label, r, weight);
                while (left >= passed && label + 1 < 1 << graph.labelBits()) {
                    left -= passed;
                    label++;
                    passed = countThrough(graph, state, label, r, weight);
                }
                word.appendLabel(label, graph.labelBits());
                state = graph.endOf(graph.edgeWithLabel(state, label));
                weight -= weightOf(label);
            }
            return word.length();
        }

        long rankOfWord(Graph graph, Word word, int start, int onesOnly) {
            if (!graph.hasState(start)) {
                return NO_SUCH_STATE;
            }
            if (onesOnly != 0 && onesOnly != 1) {
                return BAD_VALUE;
            }
            if (!graph.deterministic()) {
                return NOT_DETERMINISTIC;
            }
            int labels = word.wholeLabels(graph.labelBits());
            if (graph.firstUngeneratedLabel(start, word) != NONE || labels > MAX_LABELS) {
                return NONE;
            }
            countAll(graph, labels, onesOnly == 1);
            int state = start;
            int weight = onesOnly == 1 ? word.ones() : 0;
            long rank = 0;
            for (int m = 0; m < labels; m++) {
                int label = word.labelAt(m, graph.labelBits());
                for (int smaller = 0; smaller < label; smaller++) {
                    rank += countThrough(graph, state, smaller, labels - m - 1, weight);
                }
                state = graph.endOf(graph.edgeWithLabel(state, label));
                weight -= weightOf(label);
            }
            return rank;
        }

        private static int problemOf(Graph graph, int start, int labels, int ones) {
            if (!graph.hasState(start)) {
                return NO_SUCH_STATE;
            }
            if (labels < 0 || labels > MAX_LABELS || ones < ANY) {
                return BAD_VALUE;
            }
            return graph.deterministic() ? 0 : NOT_DETERMINISTIC;
        }

        private void countAll(Graph graph, int labels, boolean withOnes) {
            onesWeigh = withOnes;
            Arrays.fill(counts[0], 0L);
            for (int s = 0; s < graph.states(); s++) {
                counts[0][s * WIDTH] = 1L;
            }
            for (int r = 1; r <= labels; r++) {
                Arrays.fill(counts[r], 0L);
                int heaviest = withOnes ? (r - 1) * graph.labelBits() : 0;
                for (int e = 0; e < graph.edges(); e++) {
                    addThrough(graph, e, r, heaviest);
                }
            }
        }

        private void addThrough(Graph graph, int edge, int r, int heaviest) {
            int source = graph.endOf(edge) * WIDTH;
            int target = graph.startOf(edge) * WIDTH + weightOf(graph.labelOf(edge));
            for (int o = 0; o <= heaviest; o++) {
                counts[r][target + o] += counts[r - 1][source + o];
            }
        }

        private int weightOf(int label) {
            return onesWeigh ? Integer.bitCount(label) : 0;
        }

        private long countAt(int labels, int state, int weight) {
            return weight < 0 || weight >= WIDTH ? 0L : counts[labels][state * WIDTH + weight];
        }

        /** The number of words of a weight that begin with a label and have so many labels more. */
        private long countThrough(Graph graph, int state, int label, int more, int weight) {
            int edge = graph.edgeWithLabel(state, label);
            return edge < 0 ? 0L : countAt(more, graph.endOf(edge), weight - weightOf(label));
        }
    }

    /** Estimates the growth rate by power iteration. */
    static final class GrowthEstimator {
        private static final int MAX_ITERATIONS = 100;
        private static final int EXPONENT_BIAS = 1023;
        private static final int FRACTION_BITS = 52;
        private static final long FRACTION_UNITS = 1L << FRACTION_BITS;

        private final double[] values = new double[Graph.MAX_STATES];
        private final double[] sums = new double[Graph.MAX_STATES];

        long rateBits(Graph graph, int iterations) {
            if (iterations < 1 || iterations > MAX_ITERATIONS) {
                return BAD_VALUE;
            }
            Arrays.fill(values, 1.0);
            double greatest = 0.0;
            for (int i = 0; i < iterations; i++) {
                addEnds(graph);
                greatest = greatestSum(graph);
                takeSums(graph, greatest);
            }
            return bitsOf(greatest);
        }

        private void addEnds(Graph graph) {
            Arrays.fill(sums, 0.0);
            for (int e = 0; e < graph.edges(); e++) {
                sums[graph.startOf(e)] += values[graph.endOf(e)];
            }
        }

        private double greatestSum(Graph graph) {
            double greatest = 0.0;
            for (int s = 0; s < graph.states(); s++) {
                greatest = sums[s] > greatest ? sums[s] : greatest;
            }
            return greatest;
        }

        private void takeSums(Graph graph, double divisor) {
            for (int s = 0; s < graph.states(); s++) {
                values[s] = divisor > 0.0 ? sums[s] / divisor : sums[s];
            }
        }

        /**
         * The bits of a number that is not negative, as Double.doubleToLongBits gives them. A rate that is not 0.0
         * is a quotient of path counts of few states and edges, so it is never subnormal or infinite; halving,
         * doubling and taking the mantissa out are exact.
         */
        private static long bitsOf(double number) {
            if (!(number > 0.0)) {
                return 0L;
            }
            double mantissa = number;
            long exponent = EXPONENT_BIAS;
            while (mantissa >= 2.0 && exponent < 2 * EXPONENT_BIAS) {
                mantissa = mantissa / 2.0;
                exponent++;
            }
            while (mantissa < 1.0 && exponent > 1) {
                mantissa = mantissa * 2.0;
                exponent--;
            }
            long fraction = (long) ((mantissa - 1.0) * (double) FRACTION_UNITS);
            return exponent << FRACTION_BITS | fraction;
        }
    }

    /** Finds approximate eigenvectors, and keeps those of the present graph. */
    static final class EigenvectorFinder {
        private static final int MAX_BOUND = 32;
        private static final int UNKNOWN = 0;

        private final int[] bounds = new int[Encoder.MAX_DATA_LENGTH + 1];
        private final int[][] elements = new int[Encoder.MAX_DATA_LENGTH + 1][Graph.MAX_STATES];
        private final int[] sums = new int[Graph.MAX_STATES];

        void forget() {
            Arrays.fill(bounds, UNKNOWN);
        }

        /** Makes the eigenvector for p ready to be read, if it is not so already. */
        void find(Graph graph, int p) {
            if (isNumber(p) && bounds[p] == UNKNOWN) {
                bounds[p] = smallestBound(graph, p, elements[p]);
            }
        }

        int foundBound(int p) {
            return isNumber(p) ? bounds[p] : NONE;
        }

        /** The element of a state, or NONE if there is no eigenvector or no such state. */
        int foundElement(int p, int state) {
            return isNumber(p) && state >= 0 && state < Graph.MAX_STATES ? elements[p][state] : NONE;
        }

        private boolean isNumber(int p) {
            return p >= 1 && p < bounds.length;
        }

        private int smallestBound(Graph graph, int p, int[] values) {
            // What is no element stays NONE, which no element of an array is.
            Arrays.fill(values, NONE);
            for (int bound = 1; bound <= MAX_BOUND; bound++) {
                for (int s = 0; s < graph.states(); s++) {
                    values[s] = bound;
                }
                if (settle(graph, p, values)) {
                    return bound;
                }
            }
            Arrays.fill(values, NONE);
            return NONE;
        }

        /** Lowers the values until nothing changes, and tells whether one that is not zero is left. */
        private boolean settle(Graph graph, int p, int[] values) {
            // Every round but the last lowers the total of the values, which begins at 512 at most.
            int mostRounds = Graph.MAX_STATES * MAX_BOUND + 1;
            boolean changed = true;
            for (int round = 0; round < mostRounds && changed; round++) {
                changed = lower(graph, p, values);
            }
            for (int s = 0; s < graph.states(); s++) {
                if (values[s] != 0) {
                    return true;
                }
            }
            return false;
        }

        private boolean lower(Graph graph, int p, int[] values) {
            Arrays.fill(sums, 0);
            for (int e = 0; e < graph.edges(); e++) {
                sums[graph.startOf(e)] += values[graph.endOf(e)];
            }
            boolean changed = false;
            for (int s = 0; s < graph.states(); s++) {
                int quotient = sums[s] >> p;
                if (quotient < values[s]) {
                    values[s] = quotient;
                    changed = true;
                }
            }
            return changed;
        }
    }

    /** The finite-state encoder and its decoder. */
    static final class Encoder {
        static final int MAX_DATA_LENGTH = 4;
        private static final int MAX_DATA_WORDS = 1 << MAX_DATA_LENGTH;

        /** edgeFor[s * MAX_DATA_WORDS + v]: the edge that state s takes for the data word v. */
        private final int[] edgeFor = new int[Graph.MAX_STATES * MAX_DATA_WORDS];
        /** The data word of each edge, or NONE for an edge that the encoder never takes. */
        private final int[] dataOf = new int[Graph.MAX_EDGES];
        private final int[] ordered = new int[Graph.MAX_STATES];
        private boolean on = false;
        private int dataWords = 0;
        private int startState = 0;
        private int currentState = 0;

        void turnOff() {
            on = false;
        }

        int turnOn(Graph graph, int p, int start) {
            if (!graph.hasState(start)) {
                return NO_SUCH_STATE;
            }
            if (!graph.hasEdgesForAll(p)) {
                return NOT_AN_ENCODER;
            }
            on = true;
            dataWords = 1 << p;
            startState = start;
            currentState = start;
            orderEdges(graph);
            return graph.outDegree(start);
        }

        private void orderEdges(Graph graph) {
            Arrays.fill(ordered, 0);
            Arrays.fill(dataOf, NONE);
            for (int label = 0; label < 1 << graph.labelBits(); label++) {
                for (int e = 0; e < graph.edges(); e++) {
                    if (graph.labelOf(e) == label) {
                        giveDataWord(e, graph.startOf(e));
                    }
                }
            }
        }

        private void giveDataWord(int edge, int state) {
            int data = ordered[state];
            if (data < dataWords) {
                edgeFor[state * MAX_DATA_WORDS + data] = edge;
                dataOf[edge] = data;
                ordered[state] = data + 1;
            }
        }

        int state() {
            return on ? currentState : NOT_AN_ENCODER;
        }

        int write(Graph graph, Word word, int data) {
            if (!on) {
                return NOT_AN_ENCODER;
            }
            if (data < 0 || data >= dataWords) {
                return BAD_VALUE;
            }
            if (!word.hasRoom(graph.labelBits())) {
                return FULL;
            }
            int edge = edgeFor[currentState * MAX_DATA_WORDS + data];
            word.appendLabel(graph.labelOf(edge), graph.labelBits());
            currentState = graph.endOf(edge);
            return graph.labelOf(edge);
        }

        int read(Graph graph, Word word, int index) {
            if (!on) {
                return NOT_AN_ENCODER;
            }
            int labels = word.wholeLabels(graph.labelBits());
            if (!word.isMultipleOf(graph.labelBits()) || index < 0 || index >= labels) {
                return NONE;
            }
            int before = 1 << startState;
            for (int m = 0; m < index; m++) {
                before = statesAfter(graph, before, word.labelAt(m, graph.labelBits()));
            }
            int after = (1 << graph.states()) - 1;
            for (int m = labels - 1; m > index; m--) {
                after = statesBefore(graph, after, word.labelAt(m, graph.labelBits()));
            }
            return commonDataWord(graph, before, word.labelAt(index, graph.labelBits()), after);
        }

        private int statesAfter(Graph graph, int stateMask, int label) {
            int next = 0;
            for (int e = 0; e < graph.edges(); e++) {
                if (isTaken(graph, e, stateMask, label)) {
                    next |= 1 << graph.endOf(e);
                }
            }
            return next;
        }

        private int statesBefore(Graph graph, int stateMask, int label) {
            int previous = 0;
            for (int e = 0; e < graph.edges(); e++) {
                if (isTaken(graph, e, -1, label) && (stateMask >> graph.endOf(e) & 1) == 1) {
                    previous |= 1 << graph.startOf(e);
                }
            }
            return previous;
        }

        private int commonDataWord(Graph graph, int before, int label, int after) {
            int common = NONE;
            for (int e = 0; e < graph.edges(); e++) {
                if (isTaken(graph, e, before, label) && (after >> graph.endOf(e) & 1) == 1) {
                    if (common != NONE && common != dataOf[e]) {
                        return NONE;
                    }
                    common = dataOf[e];
                }
            }
            return common;
        }

        private boolean isTaken(Graph graph, int edge, int startMask, int label) {
            return dataOf[edge] != NONE && graph.labelOf(edge) == label
                && (startMask >> graph.startOf(edge) & 1) == 1;
        }
    }

    /** Finds the anticipation of a graph. */
    static final class AnticipationFinder {
        private static final int MAX_ANTICIPATION = 6;

        /** together[u]: the mask of the states v such that u and v have paths of a edges with the same labels. */
        private final int[] together = new int[Graph.MAX_STATES];
        private final int[] longerTogether = new int[Graph.MAX_STATES];

        int smallest(Graph graph) {
            Arrays.fill(together, -1);
            for (int a = 0; a <= MAX_ANTICIPATION; a++) {
                if (!leavesFirstEdgeOpen(graph)) {
                    return a;
                }
                lengthenPaths(graph);
            }
            return NONE;
        }

        private boolean leavesFirstEdgeOpen(Graph graph) {
            for (int e = 0; e < graph.edges(); e++) {
                for (int f = e + 1; f < graph.edges(); f++) {
                    if (graph.startOf(e) == graph.startOf(f) && goTogether(graph, e, f)) {
                        return true;
                    }
                }
            }
            return false;
        }

        private void lengthenPaths(Graph graph) {
            Arrays.fill(longerTogether, 0);
            for (int e = 0; e < graph.edges(); e++) {
                for (int f = 0; f < graph.edges(); f++) {
                    if (goTogether(graph, e, f)) {
                        longerTogether[graph.startOf(e)] |= 1 << graph.startOf(f);
                    }
                }
            }
            System.arraycopy(longerTogether, 0, together, 0, Graph.MAX_STATES);
        }

        private boolean goTogether(Graph graph, int e, int f) {
            return graph.labelOf(e) == graph.labelOf(f)
                && (together[graph.endOf(e)] >> graph.endOf(f) & 1) == 1;
        }
    }

    /** The slots for arrays. */
    static final class Slots {
        private static final int COUNT = 3;
        private static final int MAX_LENGTH = 20;
        private static final int MAX_VALUE = 9999;

        private final int[][] values = new int[COUNT][MAX_LENGTH];
        private final int[] lengths = new int[COUNT];
        private final boolean[] filled = new boolean[COUNT];

        boolean hasSlot(int slot) {
            return slot >= 0 && slot < COUNT;
        }

        int make(int slot, int length) {
            if (!hasSlot(slot)) {
                return NO_SUCH_SLOT;
            }
            if (length > MAX_LENGTH) {
                return BAD_VALUE;
            }
            if (length < 0) {
                return NEGATIVE_LENGTH;
            }
            Arrays.fill(values[slot], 0);
            lengths[slot] = length;
            filled[slot] = true;
            return 1;
        }

        int put(int slot, int index, int value) {
            if (!hasSlot(slot)) {
                return NO_SUCH_SLOT;
            }
            if (value < 0 || value > MAX_VALUE) {
                return BAD_VALUE;
            }
            int previous = get(slot, index);
            if (previous >= 0) {
                values[slot][index] = value;
            }
            return previous;
        }

        int get(int slot, int index) {
            if (!hasSlot(slot)) {
                return NO_SUCH_SLOT;
            }
            if (!filled[slot]) {
                return EMPTY_SLOT;
            }
            if (index < 0 || index >= lengths[slot]) {
                return INDEX_OUT_OF_RANGE;
            }
            return values[slot][index];
        }

        int firstUnequal(int slot, EigenvectorFinder eigenvectors, int p) {
            if (!hasSlot(slot)) {
                return NO_SUCH_SLOT;
            }
            if (!filled[slot]) {
                return EMPTY_SLOT;
            }
            for (int i = 0; i < lengths[slot]; i++) {
                if (values[slot][i] != eigenvectors.foundElement(p, i)) {
                    return i;
                }
            }
            return NONE;
        }
    }
}
