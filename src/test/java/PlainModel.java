import java.util.ArrayList;
import java.util.HashMap;
import java.util.HashSet;
import java.util.List;
import java.util.Map;
import java.util.Set;
import java.util.TreeMap;
import java.util.TreeSet;

/**
 * The document once more, in its plainest words: paths and words are listed one by one. It is slow, and it shares no
 * way of reckoning with the class.
 */
final class PlainModel {
    /** start, label, end. */
    private List<int[]> edges = new ArrayList<>();
    private int states = 0;
    private int labelBits = 1;
    private String word = "";
    private String input = "";
    private final int[][] arrays = new int[3][];
    private boolean on = false;
    private int p = 0;
    private int start = 0;
    private int current = 0;
    private PlainModel saved = null;

    static PlainModel of(ConstrainedCoder x) {
        PlainModel model = new PlainModel();
        model.states = x.stateCount();
        model.labelBits = x.labelLength();
        for (int e = 0; e < x.edgeCount(); e++) {
            model.edges.add(new int[] {x.edgeStart(e), x.edgeLabel(e), x.edgeEnd(e)});
        }
        for (int i = 0; i < x.wordLength(); i++) {
            model.word += x.wordBit(i);
        }
        return model;
    }

    private boolean noState(int state) {
        return state < 0 || state >= states;
    }

    private List<Integer> edgesOf(int state) {
        List<Integer> found = new ArrayList<>();
        for (int e = 0; e < edges.size(); e++) {
            if (edges.get(e)[0] == state) {
                found.add(e);
            }
        }
        return found;
    }

    private String labelText(int label) {
        String text = Integer.toBinaryString(label + (1 << labelBits));
        return text.substring(1);
    }

    private void replace(int newStates, int newBits, List<int[]> newEdges) {
        states = newStates;
        labelBits = newBits;
        edges = newEdges;
        on = false;
    }

    int loadRunLength(int d, int k) {
        if (!(0 <= d && d <= k && k <= 7)) {
            return -3;
        }
        List<int[]> list = new ArrayList<>();
        for (int i = 0; i <= k; i++) {
            if (i < k) {
                list.add(new int[] {i, 0, i + 1});
            }
            if (i >= d) {
                list.add(new int[] {i, 1, 0});
            }
        }
        replace(k + 1, 1, list);
        return k + 1;
    }

    int loadCharge(int c) {
        if (c < 1 || c > 7) {
            return -3;
        }
        List<int[]> list = new ArrayList<>();
        for (int i = 0; i <= 2 * c; i++) {
            if (i > 0) {
                list.add(new int[] {i, 0, i - 1});
            }
            if (i < 2 * c) {
                list.add(new int[] {i, 1, i + 1});
            }
        }
        replace(2 * c + 1, 1, list);
        return 2 * c + 1;
    }

    int clear(int length) {
        if (length < 1 || length > 4) {
            return -3;
        }
        int before = edges.size();
        replace(0, length, new ArrayList<>());
        return before;
    }

    int addState() {
        if (states == 16) {
            return -4;
        }
        on = false;
        return states++;
    }

    int addEdge(int from, int label, int to) {
        if (noState(from) || noState(to)) {
            return -1;
        }
        if (label < 0 || label > (1 << labelBits) - 1) {
            return -3;
        }
        if (edges.size() == 64) {
            return -4;
        }
        on = false;
        edges.add(new int[] {from, label, to});
        return edges.size() - 1;
    }

    int removeEdge(int edge) {
        if (edge < 0 || edge >= edges.size()) {
            return -2;
        }
        on = false;
        edges.remove(edge);
        return edges.size();
    }

    int edgePart(int edge, int part) {
        return edge < 0 || edge >= edges.size() ? -2 : edges.get(edge)[part];
    }

    int stateCount() {
        return states;
    }

    int edgeCount() {
        return edges.size();
    }

    int labelLength() {
        return labelBits;
    }

    int power(int q) {
        if (q < 1 || q > 4 || labelBits * q > 4) {
            return -3;
        }
        List<int[]> list = new ArrayList<>();
        for (int s = 0; s < states; s++) {
            addPaths(list, s, s, 0, q);
        }
        if (list.size() > 64) {
            return -4;
        }
        replace(states, labelBits * q, list);
        return list.size();
    }

    private void addPaths(List<int[]> list, int first, int state, int label, int more) {
        if (more == 0) {
            list.add(new int[] {first, label, state});
            return;
        }
        for (int e : edgesOf(state)) {
            addPaths(list, first, edges.get(e)[2], (label << labelBits) + edges.get(e)[1], more - 1);
        }
    }

    int split(int state, int mask) {
        if (noState(state)) {
            return -1;
        }
        List<Integer> own = edgesOf(state);
        if (own.size() < 2 || mask < 1 || (long) mask > (1L << Math.min(30, own.size())) - 2) {
            return -3;
        }
        List<int[]> list = new ArrayList<>();
        for (int e = 0; e < edges.size(); e++) {
            int[] edge = edges.get(e).clone();
            int position = own.indexOf(e);
            if (position >= 0 && ((long) mask >> Math.min(position, 40)) % 2 == 0) {
                edge[0] = states;
            }
            list.add(edge);
        }
        List<int[]> copies = new ArrayList<>();
        for (int[] edge : list) {
            if (edge[2] == state) {
                copies.add(new int[] {edge[0], edge[1], states});
            }
        }
        list.addAll(copies);
        if (states == 16 || list.size() > 64) {
            return -4;
        }
        replace(states + 1, labelBits, list);
        return states - 1;
    }

    int isDeterministic() {
        Set<String> seen = new HashSet<>();
        for (int[] edge : edges) {
            if (!seen.add(edge[0] + ":" + edge[1])) {
                return 0;
            }
        }
        return 1;
    }

    int isIrreducible() {
        if (states == 0) {
            return 0;
        }
        for (int s = 0; s < states; s++) {
            Set<Integer> reached = new TreeSet<>();
            visit(s, reached);
            if (reached.size() < states) {
                return 0;
            }
        }
        return 1;
    }

    private void visit(int state, Set<Integer> reached) {
        if (reached.add(state)) {
            for (int e : edgesOf(state)) {
                visit(edges.get(e)[2], reached);
            }
        }
    }

    int appendCharacter(int character) {
        if (character < 32 || character > 126) {
            return -3;
        }
        if (input.length() == 20) {
            return -4;
        }
        input += (char) character;
        return input.length();
    }

    int parseConstraint() {
        String text = input;
        input = "";
        Set<String> valid = new TreeSet<>();
        for (int d = 0; d <= 9; d++) {
            valid.add("charge " + d);
            for (int k = 0; k <= 9; k++) {
                valid.add("rll " + d + " " + k);
            }
        }
        if (!valid.contains(text)) {
            for (int k = 0; k < text.length(); k++) {
                String begin = text.substring(0, k + 1);
                if (valid.stream().noneMatch(one -> one.startsWith(begin))) {
                    return -100 - k;
                }
            }
            return -100 - text.length();
        }
        String[] parts = text.split(" ");
        if (parts[0].equals("rll")) {
            return loadRunLength(Integer.parseInt(parts[1]), Integer.parseInt(parts[2]));
        }
        return loadCharge(Integer.parseInt(parts[1]));
    }

    int appendBit(int bit) {
        if (bit != 0 && bit != 1) {
            return -3;
        }
        if (word.length() == 40) {
            return -4;
        }
        word += bit;
        return word.length();
    }

    int clearWord() {
        int length = word.length();
        word = "";
        return length;
    }

    String word() {
        return word;
    }

    int wordLength() {
        return word.length();
    }

    int wordBit(int index) {
        return index < 0 || index >= word.length() ? -5 : word.charAt(index) - '0';
    }

    private boolean generates(int state, String text) {
        Set<Integer> at = new TreeSet<>(List.of(state));
        for (int i = 0; i + labelBits <= text.length(); i += labelBits) {
            Set<Integer> next = new TreeSet<>();
            for (int[] edge : edges) {
                if (at.contains(edge[0]) && labelText(edge[1]).equals(text.substring(i, i + labelBits))) {
                    next.add(edge[2]);
                }
            }
            at = next;
        }
        return text.length() % labelBits == 0 && !at.isEmpty();
    }

    int firstViolation(int state) {
        if (noState(state)) {
            return -1;
        }
        if (generates(state, word)) {
            return -5;
        }
        int m = word.length() / labelBits;
        while (!generates(state, word.substring(0, m * labelBits))) {
            m--;
        }
        return m;
    }

    private static int onesOf(String text) {
        return (int) text.chars().filter(c -> c == '1').count();
    }

    private static String inverted(String text, int count) {
        StringBuilder result = new StringBuilder();
        for (int i = 0; i < text.length(); i++) {
            result.append(i < count ? (char) ('0' + '1' - text.charAt(i)) : text.charAt(i));
        }
        return result.toString();
    }

    int balance() {
        if (word.length() % 2 == 1) {
            return -8;
        }
        int j = 0;
        while (2 * onesOf(inverted(word, j)) != word.length()) {
            j++;
        }
        word = inverted(word, j);
        return j;
    }

    int invert(int count) {
        if (count < 0 || count > word.length()) {
            return -3;
        }
        word = inverted(word, count);
        return onesOf(word);
    }

    private TreeSet<String> wordsOf(int state, int labels) {
        TreeSet<String> words = new TreeSet<>();
        addWords(words, "", state, labels);
        return words;
    }

    private void addWords(Set<String> words, String begin, int state, int labels) {
        if (labels == 0) {
            words.add(begin);
            return;
        }
        for (int e : edgesOf(state)) {
            addWords(words, begin + labelText(edges.get(e)[1]), edges.get(e)[2], labels - 1);
        }
    }

    private List<String> counted(int state, int labels, int ones) {
        List<String> words = new ArrayList<>();
        for (String one : wordsOf(state, labels)) {
            if (ones == -1 || onesOf(one) == ones) {
                words.add(one);
            }
        }
        return words;
    }

    /** The number of the paths of a deterministic graph, to tell whether its words can be listed. */
    long pathsFrom(int state, int labels) {
        if (noState(state) || labels < 0 || labels > 10) {
            return 0;
        }
        long[] counts = new long[states];
        java.util.Arrays.fill(counts, 1);
        for (int i = 0; i < labels; i++) {
            long[] next = new long[states];
            for (int[] edge : edges) {
                next[edge[0]] += counts[edge[2]];
            }
            counts = next;
        }
        return counts[state];
    }

    private int countProblem(int state, int labels, int ones) {
        if (noState(state)) {
            return -1;
        }
        if (labels < 0 || labels > 10 || ones < -1) {
            return -3;
        }
        return isDeterministic() == 1 ? 0 : -6;
    }

    long countWords(int state, int labels, int ones) {
        int problem = countProblem(state, labels, ones);
        return problem < 0 ? problem : counted(state, labels, ones).size();
    }

    int unrank(int state, int labels, int ones, long rank) {
        int problem = countProblem(state, labels, ones);
        if (problem < 0) {
            return problem;
        }
        List<String> words = counted(state, labels, ones);
        if (rank < 0 || rank >= words.size()) {
            return -5;
        }
        word = words.get((int) rank);
        return word.length();
    }

    long rank(int state, int onesOnly) {
        if (noState(state)) {
            return -1;
        }
        if (onesOnly != 0 && onesOnly != 1) {
            return -3;
        }
        if (isDeterministic() == 0) {
            return -6;
        }
        if (!generates(state, word) || word.length() / labelBits > 10) {
            return -5;
        }
        return counted(state, word.length() / labelBits, onesOnly == 1 ? onesOf(word) : -1).indexOf(word);
    }

    long growthRate(int iterations) {
        if (iterations < 1 || iterations > 100) {
            return -3;
        }
        double[] values = new double[states];
        java.util.Arrays.fill(values, 1.0);
        double m = 0.0;
        for (int i = 0; i < iterations; i++) {
            double[] next = new double[states];
            m = 0.0;
            for (int s = 0; s < states; s++) {
                for (int e : edgesOf(s)) {
                    next[s] += values[edges.get(e)[2]];
                }
                m = Math.max(m, next[s]);
            }
            for (int s = 0; s < states && m > 0.0; s++) {
                next[s] /= m;
            }
            values = next;
        }
        return Double.doubleToLongBits(m);
    }

    /** The vector, with the bound as its last element; null if there is none. */
    private int[] eigenvector(int dataLength) {
        for (int b = 1; b <= 32; b++) {
            int[] x = new int[states];
            java.util.Arrays.fill(x, b);
            int[] old;
            do {
                old = x;
                x = new int[states];
                for (int s = 0; s < states; s++) {
                    int sum = 0;
                    for (int e : edgesOf(s)) {
                        sum += old[edges.get(e)[2]];
                    }
                    x[s] = Math.min(old[s], Math.floorDiv(sum, 1 << dataLength));
                }
            } while (!java.util.Arrays.equals(x, old));
            for (int value : x) {
                if (value != 0) {
                    int[] result = java.util.Arrays.copyOf(x, states + 1);
                    result[states] = b;
                    return result;
                }
            }
        }
        return null;
    }

    int eigenvectorElement(int dataLength, int state) {
        if (dataLength < 1 || dataLength > 4) {
            return -3;
        }
        if (noState(state)) {
            return -1;
        }
        int[] vector = eigenvector(dataLength);
        return vector == null ? -5 : vector[state];
    }

    int eigenvectorBound(int dataLength) {
        if (dataLength < 1 || dataLength > 4) {
            return -3;
        }
        int[] vector = eigenvector(dataLength);
        return vector == null ? -5 : vector[states];
    }

    int isEncoder(int dataLength) {
        if (dataLength < 1 || dataLength > 4) {
            return -3;
        }
        for (int s = 0; s < states; s++) {
            if (edgesOf(s).size() < 1 << dataLength) {
                return 0;
            }
        }
        return states > 0 ? 1 : 0;
    }

    int startEncoder(int dataLength, int state) {
        if (dataLength < 1 || dataLength > 4) {
            return -3;
        }
        if (noState(state)) {
            return -1;
        }
        if (isEncoder(dataLength) == 0) {
            return -7;
        }
        on = true;
        p = dataLength;
        start = state;
        current = state;
        return edgesOf(state).size();
    }

    private List<Integer> encoderEdges(int state) {
        List<Integer> ordered = edgesOf(state);
        ordered.sort((e, f) -> edges.get(e)[1] != edges.get(f)[1] ? edges.get(e)[1] - edges.get(f)[1] : e - f);
        return ordered.subList(0, 1 << p);
    }

    int encode(int data) {
        if (!on) {
            return -7;
        }
        if (data < 0 || data >= 1 << p) {
            return -3;
        }
        if (word.length() + labelBits > 40) {
            return -4;
        }
        int[] edge = edges.get(encoderEdges(current).get(data));
        word += labelText(edge[1]);
        current = edge[2];
        return edge[1];
    }

    int encoderState() {
        return on ? current : -7;
    }

    /** Follows all paths together, each as its state and its data word at the index. */
    int decode(int index) {
        if (!on) {
            return -7;
        }
        if (word.length() % labelBits != 0 || index < 0 || index >= word.length() / labelBits) {
            return -5;
        }
        Set<List<Integer>> paths = new HashSet<>();
        paths.add(List.of(start, -1));
        for (int m = 0; m < word.length() / labelBits; m++) {
            Set<List<Integer>> longer = new HashSet<>();
            String label = word.substring(m * labelBits, (m + 1) * labelBits);
            for (List<Integer> path : paths) {
                List<Integer> ordered = encoderEdges(path.get(0));
                for (int data = 0; data < ordered.size(); data++) {
                    int[] edge = edges.get(ordered.get(data));
                    if (labelText(edge[1]).equals(label)) {
                        longer.add(List.of(edge[2], m == index ? data : path.get(1)));
                    }
                }
            }
            paths = longer;
        }
        Set<Integer> found = new TreeSet<>();
        for (List<Integer> path : paths) {
            found.add(path.get(1));
        }
        return found.size() == 1 ? found.iterator().next() : -5;
    }

    int anticipation() {
        for (int a = 0; a <= 6; a++) {
            boolean holds = true;
            for (int s = 0; s < states && holds; s++) {
                Set<List<Integer>> paths = new HashSet<>();
                for (int e : edgesOf(s)) {
                    paths.add(List.of(edges.get(e)[1], e, edges.get(e)[2]));
                }
                holds = !differ(paths, a, new HashMap<>());
            }
            if (holds) {
                return a;
            }
        }
        return -5;
    }

    /** Whether paths with the same labels and different first edges remain after so many edges more. */
    private boolean differ(Set<List<Integer>> paths, int more, Map<Object, Boolean> known) {
        Object key = List.of(paths, more);
        if (known.containsKey(key)) {
            return known.get(key);
        }
        known.put(key, differNow(paths, more, known));
        return known.get(key);
    }

    private boolean differNow(Set<List<Integer>> paths, int more, Map<Object, Boolean> known) {
        Map<Integer, Set<Integer>> firstEdges = new TreeMap<>();
        Map<Integer, Set<List<Integer>>> longer = new TreeMap<>();
        for (List<Integer> path : paths) {
            firstEdges.computeIfAbsent(path.get(0), k -> new TreeSet<>()).add(path.get(1));
            longer.computeIfAbsent(path.get(0), k -> new HashSet<>());
            for (int e : edgesOf(path.get(2))) {
                longer.get(path.get(0)).add(List.of(edges.get(e)[1], path.get(1), edges.get(e)[2]));
            }
        }
        for (int label : firstEdges.keySet()) {
            boolean open = firstEdges.get(label).size() > 1;
            if (open && (more == 0 || differ(longer.get(label), more - 1, known))) {
                return true;
            }
        }
        return false;
    }

    int newArray(int slot, int length) {
        if (slot < 0 || slot > 2) {
            return -9;
        }
        if (length > 20) {
            return -3;
        }
        if (length < 0) {
            return -12;
        }
        arrays[slot] = new int[length];
        return 1;
    }

    int setElement(int slot, int index, int value) {
        if (slot < 0 || slot > 2) {
            return -9;
        }
        if (value < 0 || value > 9999) {
            return -3;
        }
        int previous = element(slot, index);
        if (previous >= 0) {
            arrays[slot][index] = value;
        }
        return previous;
    }

    int element(int slot, int index) {
        if (slot < 0 || slot > 2) {
            return -9;
        }
        if (arrays[slot] == null) {
            return -10;
        }
        return index < 0 || index >= arrays[slot].length ? -11 : arrays[slot][index];
    }

    int firstDifference(int slot, int dataLength) {
        if (slot < 0 || slot > 2) {
            return -9;
        }
        if (dataLength < 1 || dataLength > 4) {
            return -3;
        }
        if (arrays[slot] == null) {
            return -10;
        }
        int[] vector = eigenvector(dataLength);
        for (int i = 0; i < arrays[slot].length; i++) {
            if (vector == null || i >= states || arrays[slot][i] != vector[i]) {
                return i;
            }
        }
        return -5;
    }

    int saveSnapshot() {
        saved = new PlainModel();
        saved.replace(states, labelBits, new ArrayList<>(edges));
        saved.word = word;
        return states;
    }

    int restoreSnapshot() {
        if (saved == null) {
            return -5;
        }
        replace(saved.states, saved.labelBits, new ArrayList<>(saved.edges));
        word = saved.word;
        return states;
    }
}
