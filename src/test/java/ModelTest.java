/**
 * Long runs of calls, good and bad ones, on the class and on the plain model; each answer must be the same. The model
 * alone is asked to choose the calls, so that no object is called more often than the document says.
 */
final class ModelTest {
    private static final int RUNS = 4000;
    private static final int MOST_CALLS = 512;
    /** The calls of the longest step, and those of the comparison at the end. */
    private static final int STEP = 90;
    private static final int COMPARISON = 240;
    private static final int[] EXTREMES = {Integer.MIN_VALUE, Integer.MIN_VALUE + 1, -65536, -2, -1, 31, 32, 33, 40,
        41, 63, 64, 65, 127, 256, 65536, 1 << 30, Integer.MAX_VALUE - 1, Integer.MAX_VALUE};

    private final Check check;
    private long seed;
    private ConstrainedCoder x = new ConstrainedCoder();
    private PlainModel model = new PlainModel();
    /** How many edges a run likes to have. */
    private int richness = 0;
    private int calls = 0;

    private ModelTest(Check check, long seed) {
        this.check = check;
        this.seed = seed;
    }

    static void run(Check check) {
        for (int i = 0; i < RUNS; i++) {
            check.about("run " + i + " of the model");
            new ModelTest(check, i * 7919L + 17).play();
        }
    }

    /** The next number from 0 to bound - 1 of a fixed sequence. */
    private int next(int bound) {
        seed = seed * 6364136223846793005L + 1442695040888963407L;
        return (int) ((seed >>> 33) % bound);
    }

    /** Mostly a number from least to most, at times one just outside or far outside. */
    private int number(int least, int most) {
        int kind = next(40);
        if (kind == 0) {
            return EXTREMES[next(EXTREMES.length)];
        }
        if (kind == 1) {
            return least - 1;
        }
        if (kind == 2) {
            return most + 1;
        }
        return least + next(Math.max(1, most - least + 1));
    }

    private int state() {
        return number(0, model.stateCount() - 1);
    }

    private void same(String call, long answer, long due) {
        calls++;
        check.is(call, answer, due);
    }

    private void play() {
        richness = next(4);
        while (calls + STEP + COMPARISON <= MOST_CALLS) {
            step(next(10));
            same("encoderState()", x.encoderState(), model.encoderState());
        }
        compareStates();
        check.holds("the calls of a run", calls <= MOST_CALLS);
    }

    private void step(int kind) {
        if (kind < 3) {
            changeGraph();
        } else if (kind < 5) {
            askGraph();
        } else if (kind < 7) {
            useWord();
        } else if (kind < 9) {
            useEncoder();
        } else {
            useRest();
        }
    }

    private void compareStates() {
        same("stateCount()", x.stateCount(), model.stateCount());
        same("edgeCount()", x.edgeCount(), model.edgeCount());
        same("labelLength()", x.labelLength(), model.labelLength());
        for (int e = 0; e < model.edgeCount(); e++) {
            same("edgeStart(" + e + ")", x.edgeStart(e), model.edgePart(e, 0));
            same("edgeLabel(" + e + ")", x.edgeLabel(e), model.edgePart(e, 1));
            same("edgeEnd(" + e + ")", x.edgeEnd(e), model.edgePart(e, 2));
        }
        same("wordLength()", x.wordLength(), model.wordLength());
        for (int i = 0; i < model.wordLength(); i++) {
            same("wordBit(" + i + ")", x.wordBit(i), model.wordBit(i));
        }
    }

    private void changeGraph() {
        int kind = next(richness == 0 ? 40 : 30);
        if (kind == 0) {
            int d = number(0, 4);
            int k = number(Math.max(0, Math.min(d, 7)), 7);
            same("loadRunLength(" + d + ", " + k + ")", x.loadRunLength(d, k), model.loadRunLength(d, k));
        } else if (kind == 1) {
            int c = number(1, richness == 3 ? 7 : 3);
            same("loadCharge(" + c + ")", x.loadCharge(c), model.loadCharge(c));
        } else if (kind == 2) {
            int length = number(1, 4);
            same("clear(" + length + ")", x.clear(length), model.clear(length));
            growGraph();
        } else if (kind == 3) {
            same("addState()", x.addState(), model.addState());
        } else if (kind < 7) {
            addEdge(state(), number(0, (1 << model.labelLength()) - 1), state());
        } else if (kind < 9) {
            int edge = number(0, model.edgeCount() - 1);
            same("removeEdge(" + edge + ")", x.removeEdge(edge), model.removeEdge(edge));
        } else if (kind < 12) {
            changeByPower();
        } else if (kind < 18) {
            int s = state();
            int mask = number(1, (1 << next(6)));
            same("split(" + s + ", " + mask + ")", x.split(s, mask), model.split(s, mask));
        } else if (kind < 21) {
            parse();
        } else if (kind < 23) {
            same("saveSnapshot()", x.saveSnapshot(), model.saveSnapshot());
        } else if (kind < 25) {
            same("restoreSnapshot()", x.restoreSnapshot(), model.restoreSnapshot());
        }
    }

    private void growGraph() {
        int states = 1 + next(richness == 3 ? 16 : 5);
        for (int s = 0; s < states; s++) {
            same("addState()", x.addState(), model.addState());
        }
        int edges = Math.min(next(states * (2 + 2 * richness) + 1), 70);
        boolean deterministic = next(2) == 0;
        for (int e = 0; e < edges; e++) {
            int from = next(states);
            int label = next(1 << model.labelLength());
            if (!deterministic || !hasLabel(from, label)) {
                addEdge(from, label, next(states));
            }
        }
    }

    private boolean hasLabel(int from, int label) {
        for (int e = 0; e < model.edgeCount(); e++) {
            if (model.edgePart(e, 0) == from && model.edgePart(e, 1) == label) {
                return true;
            }
        }
        return false;
    }

    private void addEdge(int from, int label, int to) {
        same("addEdge(" + from + ", " + label + ", " + to + ")", x.addEdge(from, label, to),
            model.addEdge(from, label, to));
    }

    private void changeByPower() {
        int q = number(1, 3);
        // The model lists all paths, which must not be too many.
        if (q == 2 || model.edgeCount() < 30) {
            same("power(" + q + ")", x.power(q), model.power(q));
        }
    }

    private void parse() {
        String[] texts = {"rll ", "charge ", "0", "1", "3", " ", "2 ", "7", "9", "x", "rll 0 1", "charge 2", ""};
        int pieces = next(4);
        for (int i = 0; i < pieces; i++) {
            for (char c : texts[next(texts.length)].toCharArray()) {
                same("appendCharacter(" + c + ")", x.appendCharacter(c), model.appendCharacter(c));
            }
        }
        if (next(3) > 0) {
            same("parseConstraint()", x.parseConstraint(), model.parseConstraint());
        }
    }

    private void askGraph() {
        int kind = next(7);
        int s = state();
        int p = number(1, 4);
        if (kind == 0) {
            same("isDeterministic()", x.isDeterministic(), model.isDeterministic());
        } else if (kind == 1) {
            same("isIrreducible()", x.isIrreducible(), model.isIrreducible());
        } else if (kind == 2) {
            int iterations = number(1, 100);
            same("growthRate(" + iterations + ")", x.growthRate(iterations), model.growthRate(iterations));
        } else if (kind == 3) {
            same("eigenvectorBound(" + p + ")", x.eigenvectorBound(p), model.eigenvectorBound(p));
        } else if (kind == 4) {
            same("eigenvectorElement(" + p + ", " + s + ")", x.eigenvectorElement(p, s),
                model.eigenvectorElement(p, s));
        } else if (kind == 5) {
            same("isEncoder(" + p + ")", x.isEncoder(p), model.isEncoder(p));
        } else if (model.edgeCount() <= 30) {
            same("anticipation()", x.anticipation(), model.anticipation());
        }
    }

    private void useWord() {
        int kind = next(12);
        int s = state();
        if (kind < 4) {
            for (int i = next(5); i >= 0; i--) {
                int bit = number(0, 1);
                same("appendBit(" + bit + ")", x.appendBit(bit), model.appendBit(bit));
            }
        } else if (kind == 4) {
            same("clearWord()", x.clearWord(), model.clearWord());
        } else if (kind == 5) {
            int index = number(0, model.wordLength() - 1);
            same("wordBit(" + index + ")", x.wordBit(index), model.wordBit(index));
        } else if (kind == 6) {
            same("firstViolation(" + s + ")", x.firstViolation(s), model.firstViolation(s));
        } else if (kind == 7) {
            same("balance()", x.balance(), model.balance());
        } else if (kind == 8) {
            int count = number(0, model.wordLength());
            same("invert(" + count + ")", x.invert(count), model.invert(count));
        } else {
            useRanks(s);
        }
    }

    private void useRanks(int s) {
        int labels = number(0, 10 / model.labelLength());
        int ones = number(-1, labels < 0 || labels > 10 ? 3 : labels * model.labelLength());
        boolean listable = model.pathsFrom(s, labels) < 3000;
        if (listable) {
            long count = model.countWords(s, labels, ones);
            same("countWords(" + s + ", " + labels + ", " + ones + ")", x.countWords(s, labels, ones), count);
            long rank = number(0, (int) Math.max(0, count - 1));
            same("unrank(" + s + ", " + labels + ", " + ones + ", " + rank + ")",
                x.unrank(s, labels, ones, rank), model.unrank(s, labels, ones, rank));
        }
        int onesOnly = number(0, 1);
        if (model.pathsFrom(s, model.wordLength() / model.labelLength()) < 3000) {
            same("rank(" + s + ", " + onesOnly + ")", x.rank(s, onesOnly), model.rank(s, onesOnly));
        }
    }

    private void useEncoder() {
        int kind = next(8);
        if (kind == 0 || model.encoderState() < 0) {
            int p = number(1, 4);
            for (int lower = p; lower > 0 && lower < 5; lower--) {
                int s = state();
                same("startEncoder(" + lower + ", " + s + ")", x.startEncoder(lower, s),
                    model.startEncoder(lower, s));
            }
        } else if (kind < 5) {
            int data = number(0, 3);
            same("encode(" + data + ")", x.encode(data), model.encode(data));
        } else {
            int index = number(0, model.wordLength() / model.labelLength() - 1);
            same("decode(" + index + ")", x.decode(index), model.decode(index));
        }
    }

    private void useRest() {
        int kind = next(8);
        int slot = number(0, 2);
        int index = number(0, 5);
        if (kind == 0) {
            int length = number(0, 20);
            same("newArray(" + slot + ", " + length + ")", x.newArray(slot, length), model.newArray(slot, length));
        } else if (kind < 4) {
            int value = next(3) == 0 ? number(0, 9999) : number(0, 2);
            same("setElement(" + slot + ", " + index + ", " + value + ")", x.setElement(slot, index, value),
                model.setElement(slot, index, value));
        } else if (kind < 6) {
            same("element(" + slot + ", " + index + ")", x.element(slot, index), model.element(slot, index));
        } else if (kind == 6) {
            int p = number(1, 4);
            same("firstDifference(" + slot + ", " + p + ")", x.firstDifference(slot, p),
                model.firstDifference(slot, p));
        } else {
            int edge = number(0, model.edgeCount() - 1);
            int character = number(32, 126);
            same("edgeStart(" + edge + ")", x.edgeStart(edge), model.edgePart(edge, 0));
            same("edgeLabel(" + edge + ")", x.edgeLabel(edge), model.edgePart(edge, 1));
            same("edgeEnd(" + edge + ")", x.edgeEnd(edge), model.edgePart(edge, 2));
            same("appendCharacter(" + character + ")", x.appendCharacter(character),
                model.appendCharacter(character));
        }
    }
}
