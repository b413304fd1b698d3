/** Short ways to bring an object into a state, and to read its state as text. */
final class Calls {
    private Calls() {
    }

    static ConstrainedCoder runLength(int d, int k) {
        ConstrainedCoder x = new ConstrainedCoder();
        x.loadRunLength(d, k);
        return x;
    }

    static ConstrainedCoder charge(int c) {
        ConstrainedCoder x = new ConstrainedCoder();
        x.loadCharge(c);
        return x;
    }

    /** A graph of states without edges. */
    static ConstrainedCoder states(int labelLength, int count) {
        ConstrainedCoder x = new ConstrainedCoder();
        x.clear(labelLength);
        for (int i = 0; i < count; i++) {
            x.addState();
        }
        return x;
    }

    /** A graph with the edges start, label, end of each three numbers. */
    static ConstrainedCoder graph(int labelLength, int count, int... edges) {
        ConstrainedCoder x = states(labelLength, count);
        for (int i = 0; i + 2 < edges.length; i += 3) {
            x.addEdge(edges[i], edges[i + 1], edges[i + 2]);
        }
        return x;
    }

    /** One state with a number of loops of the label 0. */
    static ConstrainedCoder loops(int count) {
        ConstrainedCoder x = states(1, 1);
        for (int i = 0; i < count; i++) {
            x.addEdge(0, 0, 0);
        }
        return x;
    }

    static void setWord(ConstrainedCoder x, String bits) {
        x.clearWord();
        for (int i = 0; i < bits.length(); i++) {
            x.appendBit(bits.charAt(i) - '0');
        }
    }

    static String word(ConstrainedCoder x) {
        StringBuilder text = new StringBuilder();
        for (int i = 0; i < x.wordLength(); i++) {
            text.append(x.wordBit(i));
        }
        return text.toString();
    }

    /** The graph as text: the label length, the number of states, and each edge as start-label-end. */
    static String graphText(ConstrainedCoder x) {
        StringBuilder text = new StringBuilder();
        text.append(x.labelLength()).append('/').append(x.stateCount()).append(':');
        for (int e = 0; e < x.edgeCount(); e++) {
            text.append(' ').append(x.edgeStart(e)).append('-').append(x.edgeLabel(e)).append('-')
                .append(x.edgeEnd(e));
        }
        return text.toString();
    }

    static void type(ConstrainedCoder x, String text) {
        for (int i = 0; i < text.length(); i++) {
            x.appendCharacter(text.charAt(i));
        }
    }

    static int parse(ConstrainedCoder x, String text) {
        type(x, text);
        return x.parseConstraint();
    }
}
