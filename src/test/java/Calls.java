import java.lang.reflect.Method;

/** Short ways to bring an object into a state, and to read its state as text. */
final class Calls {
    private Calls() {
    }

    static ConstrainedCoder runLength(int d, int k) {
        ConstrainedCoder x = new ConstrainedCoder();
        x.loadRunLength(d, k);
        return x;
    }

    static ConstrainedCoder charge(int c) {
        ConstrainedCoder x = new ConstrainedCoder();
        x.loadCharge(c);
        return x;
    }

    /** A graph of states without edges. */
    static ConstrainedCoder states(int labelLength, int count) {
        ConstrainedCoder x = new ConstrainedCoder();
        x.clear(labelLength);
        for (int i = 0; i < count; i++) {
            x.addState();
        }
        return x;
    }

    /** A graph with the edges start, label, end of each three numbers. */
    static ConstrainedCoder graph(int labelLength, int count, int... edges) {
        ConstrainedCoder x = states(labelLength, count);
        for (int i = 0; i + 2 < edges.length; i += 3) {
            x.addEdge(edges[i], edges[i + 1], edges[i + 2]);
        }
        return x;
    }

    /** One state with a number of loops of the label 0. */
    static ConstrainedCoder loops(int count) {
        ConstrainedCoder x = states(1, 1);
        for (int i = 0; i < count; i++) {
            x.addEdge(0, 0, 0);
        }
        return x;
    }

    static void setWord(ConstrainedCoder x, String bits) {
        x.clearWord();
        for (int i = 0; i < bits.length(); i++) {
            x.appendBit(bits.charAt(i) - '0');
        }
    }

    static String word(ConstrainedCoder x) {
        StringBuilder text = new StringBuilder();
        int length = x.wordLength();
        for (int i = 0; i < length; i++) {
            text.append(x.wordBit(i));
        }
        return text.toString();
    }

    /** The graph as text: the label length, the number of states, and each edge as start-label-end. */
    static String graphText(ConstrainedCoder x) {
        StringBuilder text = new StringBuilder();
        text.append(x.labelLength()).append('/').append(x.stateCount()).append(':');
        int edges = x.edgeCount();
        for (int e = 0; e < edges; e++) {
            text.append(' ').append(x.edgeStart(e)).append('-').append(x.edgeLabel(e)).append('-')
                .append(x.edgeEnd(e));
        }
        return text.toString();
    }

    static void type(ConstrainedCoder x, String text) {
        for (int i = 0; i < text.length(); i++) {
            x.appendCharacter(text.charAt(i));
        }
    }

    static int parse(ConstrainedCoder x, String text) {
        type(x, text);
        return x.parseConstraint();
    }

    /**
     * Numbers below least and above most, both of which are at least 0: the next ones, the farthest ones, and such as
     * a cast to fewer bits, a sign that is dropped or a product that wraps around would let through.
     */
    static int[] outside(int least, int most) {
        return new int[] {least - 1, most + 1, -most - 2, most + 256, least - 256, most + 65536, least - 65536,
            (1 << 29) + most, (1 << 30) + least, (1 << 30) + most, Integer.MIN_VALUE, Integer.MIN_VALUE + most,
            Integer.MIN_VALUE + least + 1, Integer.MAX_VALUE, Integer.MAX_VALUE - 1};
    }

    /** Makes the call that a text names. */
    static long answer(ConstrainedCoder coder, String name, String list) throws ReflectiveOperationException {
        String[] texts = list.isEmpty() ? new String[0] : list.split(", ");
        for (Method method : ConstrainedCoder.class.getDeclaredMethods()) {
            Class<?>[] types = method.getParameterTypes();
            if (method.getName().equals(name) && types.length == texts.length) {
                Object[] values = new Object[texts.length];
                for (int i = 0; i < texts.length; i++) {
                    values[i] = types[i] == int.class ? (Object) Integer.valueOf(texts[i]) : Long.valueOf(texts[i]);
                }
                return ((Number) method.invoke(coder, values)).longValue();
            }
        }
        throw new NoSuchMethodException(name + "(" + list + ")");
    }
}
