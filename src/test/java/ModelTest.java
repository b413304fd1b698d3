/** Long runs of calls, good and bad ones, on the class and on the plain model; each answer must be the same. */
final class ModelTest {
    private static final int RUNS = 1500;
    private static final int CALLS = 300;
    private static final int[] EXTREMES = {Integer.MIN_VALUE, Integer.MIN_VALUE + 1, -65536, -2, -1, 31, 32, 33, 40,
        41, 63, 64, 65, 127, 256, 65536, 1 << 30, Integer.MAX_VALUE - 1, Integer.MAX_VALUE};

    private final Check check;
    private long seed;
    private ConstrainedCoder x = new ConstrainedCoder();
    private PlainModel model = new PlainModel();
    /** The greatest label length of a run, and how many edges it likes to have. */
    private int richness = 0;

    private ModelTest(Check check, long seed) {
        this.check = check;
        this.seed = seed;
    }

    static void run(Check check) {
        for (int i = 0; i < RUNS; i++) {
            check.about("run " + i + " of the model");
            new ModelTest(check, i * 7919L + 17).play();
        }
    }

    /** The next number from 0 to bound - 1 of a fixed sequence. */
    private int next(int bound) {
        seed = seed * 6364136223846793005L + 1442695040888963407L;
        return (int) ((seed >>> 33) % bound);
    }

    /** Mostly a number from least to most, at times one just outside or far outside. */
    private int number(int least, int most) {
        int kind = next(40);
        if (kind == 0) {
            return EXTREMES[next(EXTREMES.length)];
        }
        if (kind == 1) {
            return least - 1;
        }
        if (kind == 2) {
            return most + 1;
        }
        return least + next(Math.max(1, most - least + 1));
    }

    private int state() {
        return number(0, x.stateCount() - 1);
    }

    private void play() {
        richness = next(4);
        for (int i = 0; i < CALLS; i++) {
            int kind = next(10);
            if (kind < 3) {
                changeGraph();
            } else if (kind < 5) {
                askGraph();
            } else if (kind < 7) {
                useWord();
            } else if (kind < 9) {
                useEncoder();
            } else {
                useRest();
            }
            if (i % 10 == 0) {
                compareStates();
            }
        }
        compareStates();
    }

    private void compareStates() {
        check.is("stateCount()", x.stateCount(), model.stateCount());
        check.is("edgeCount()", x.edgeCount(), model.edgeCount());
        check.is("labelLength()", x.labelLength(), model.labelLength());
        for (int e = 0; e < model.edgeCount(); e++) {
            check.is("edgeStart(" + e + ")", x.edgeStart(e), model.edgePart(e, 0));
            check.is("edgeLabel(" + e + ")", x.edgeLabel(e), model.edgePart(e, 1));
            check.is("edgeEnd(" + e + ")", x.edgeEnd(e), model.edgePart(e, 2));
        }
        check.text("the word", Calls.word(x), model.word());
        check.is("encoderState()", x.encoderState(), model.encoderState());
    }

    private void changeGraph() {
        int kind = next(richness == 0 ? 40 : 30);
        if (kind == 0) {
            int d = number(0, 4);
            int k = number(Math.max(0, Math.min(d, 7)), 7);
            check.is("loadRunLength(" + d + ", " + k + ")", x.loadRunLength(d, k), model.loadRunLength(d, k));
        } else if (kind == 1) {
            int c = number(1, richness == 3 ? 7 : 3);
            check.is("loadCharge(" + c + ")", x.loadCharge(c), model.loadCharge(c));
        } else if (kind == 2) {
            int length = number(1, 4);
            check.is("clear(" + length + ")", x.clear(length), model.clear(length));
            growGraph();
        } else if (kind == 3) {
            check.is("addState()", x.addState(), model.addState());
        } else if (kind < 7) {
            addEdge(state(), number(0, (1 << x.labelLength()) - 1), state());
        } else if (kind < 9) {
            int edge = number(0, x.edgeCount() - 1);
            check.is("removeEdge(" + edge + ")", x.removeEdge(edge), model.removeEdge(edge));
        } else if (kind < 12) {
            changeByPower();
        } else if (kind < 18) {
            int s = state();
            int mask = number(1, (1 << next(6)));
            check.is("split(" + s + ", " + mask + ")", x.split(s, mask), model.split(s, mask));
        } else if (kind < 21) {
            parse();
        } else if (kind < 23) {
            check.is("saveSnapshot()", x.saveSnapshot(), model.saveSnapshot());
        } else if (kind < 25) {
            check.is("restoreSnapshot()", x.restoreSnapshot(), model.restoreSnapshot());
        }
    }

    private void growGraph() {
        int states = 1 + next(richness == 3 ? 16 : 5);
        for (int s = 0; s < states; s++) {
            check.is("addState()", x.addState(), model.addState());
        }
        int edges = next(states * (2 + 2 * richness) + 1);
        boolean deterministic = next(2) == 0;
        for (int e = 0; e < edges; e++) {
            int from = next(states);
            int label = next(1 << x.labelLength());
            if (!deterministic || !hasLabel(from, label)) {
                addEdge(from, label, next(states));
            }
        }
    }

    private boolean hasLabel(int from, int label) {
        for (int e = 0; e < x.edgeCount(); e++) {
            if (x.edgeStart(e) == from && x.edgeLabel(e) == label) {
                return true;
            }
        }
        return false;
    }

    private void addEdge(int from, int label, int to) {
        check.is("addEdge(" + from + ", " + label + ", " + to + ")", x.addEdge(from, label, to),
            model.addEdge(from, label, to));
    }

    private void changeByPower() {
        int q = number(1, 3);
        // The model lists all paths, which must not be too many.
        if (q == 2 || x.edgeCount() < 30) {
            check.is("power(" + q + ")", x.power(q), model.power(q));
        }
    }

    private void parse() {
        String[] texts = {"rll ", "charge ", "0", "1", "3", " ", "2 ", "7", "9", "x", "rll 0 1", "charge 2", ""};
        int pieces = next(4);
        for (int i = 0; i < pieces; i++) {
            for (char c : texts[next(texts.length)].toCharArray()) {
                check.is("appendCharacter(" + c + ")", x.appendCharacter(c), model.appendCharacter(c));
            }
        }
        if (next(3) > 0) {
            check.is("parseConstraint()", x.parseConstraint(), model.parseConstraint());
        }
    }

    private void askGraph() {
        int kind = next(7);
        int s = state();
        int p = number(1, 4);
        if (kind == 0) {
            check.is("isDeterministic()", x.isDeterministic(), model.isDeterministic());
        } else if (kind == 1) {
            check.is("isIrreducible()", x.isIrreducible(), model.isIrreducible());
        } else if (kind == 2) {
            int iterations = number(1, 100);
            check.is("growthRate(" + iterations + ")", x.growthRate(iterations), model.growthRate(iterations));
        } else if (kind == 3) {
            check.is("eigenvectorBound(" + p + ")", x.eigenvectorBound(p), model.eigenvectorBound(p));
        } else if (kind == 4) {
            check.is("eigenvectorElement(" + p + ", " + s + ")", x.eigenvectorElement(p, s),
                model.eigenvectorElement(p, s));
        } else if (kind == 5) {
            check.is("isEncoder(" + p + ")", x.isEncoder(p), model.isEncoder(p));
        } else if (x.edgeCount() <= 30) {
            check.is("anticipation()", x.anticipation(), model.anticipation());
        }
    }

    private void useWord() {
        int kind = next(12);
        int s = state();
        if (kind < 4) {
            for (int i = next(5); i >= 0; i--) {
                int bit = number(0, 1);
                check.is("appendBit(" + bit + ")", x.appendBit(bit), model.appendBit(bit));
            }
        } else if (kind == 4) {
            check.is("clearWord()", x.clearWord(), model.clearWord());
        } else if (kind == 5) {
            int index = number(0, x.wordLength() - 1);
            check.is("wordBit(" + index + ")", x.wordBit(index), model.wordBit(index));
        } else if (kind == 6) {
            check.is("firstViolation(" + s + ")", x.firstViolation(s), model.firstViolation(s));
        } else if (kind == 7) {
            check.is("balance()", x.balance(), model.balance());
        } else if (kind == 8) {
            int count = number(0, x.wordLength());
            check.is("invert(" + count + ")", x.invert(count), model.invert(count));
        } else {
            useRanks(s);
        }
    }

    private void useRanks(int s) {
        int labels = number(0, 10 / x.labelLength());
        int ones = number(-1, labels < 0 || labels > 10 ? 3 : labels * x.labelLength());
        boolean listable = model.pathsFrom(s, labels) < 3000;
        if (listable) {
            long count = model.countWords(s, labels, ones);
            check.is("countWords(" + s + ", " + labels + ", " + ones + ")", x.countWords(s, labels, ones), count);
            long rank = number(0, (int) Math.max(0, count - 1));
            check.is("unrank(" + s + ", " + labels + ", " + ones + ", " + rank + ")",
                x.unrank(s, labels, ones, rank), model.unrank(s, labels, ones, rank));
        }
        int onesOnly = number(0, 1);
        if (model.pathsFrom(s, x.wordLength() / x.labelLength()) < 3000) {
            check.is("rank(" + s + ", " + onesOnly + ")", x.rank(s, onesOnly), model.rank(s, onesOnly));
        }
    }

    private void useEncoder() {
        int kind = next(8);
        if (kind == 0 || x.encoderState() < 0) {
            int p = number(1, 4);
            for (int lower = p; lower > 0 && lower < 5; lower--) {
                int s = state();
                check.is("startEncoder(" + lower + ", " + s + ")", x.startEncoder(lower, s),
                    model.startEncoder(lower, s));
            }
        } else if (kind < 5) {
            int data = number(0, 3);
            check.is("encode(" + data + ")", x.encode(data), model.encode(data));
        } else {
            int index = number(0, x.wordLength() / x.labelLength() - 1);
            check.is("decode(" + index + ")", x.decode(index), model.decode(index));
        }
    }

    private void useRest() {
        int kind = next(8);
        int slot = number(0, 2);
        int index = number(0, 5);
        if (kind == 0) {
            int length = number(0, 20);
            check.is("newArray(" + slot + ", " + length + ")", x.newArray(slot, length), model.newArray(slot, length));
        } else if (kind < 4) {
            int value = next(3) == 0 ? number(0, 9999) : number(0, 2);
            check.is("setElement(" + slot + ", " + index + ", " + value + ")", x.setElement(slot, index, value),
                model.setElement(slot, index, value));
        } else if (kind < 6) {
            check.is("element(" + slot + ", " + index + ")", x.element(slot, index), model.element(slot, index));
        } else if (kind == 6) {
            int p = number(1, 4);
            check.is("firstDifference(" + slot + ", " + p + ")", x.firstDifference(slot, p),
                model.firstDifference(slot, p));
        } else {
            int edge = number(0, x.edgeCount() - 1);
            int character = number(32, 126);
            check.is("edgeStart(" + edge + ")", x.edgeStart(edge), model.edgePart(edge, 0));
            check.is("edgeLabel(" + edge + ")", x.edgeLabel(edge), model.edgePart(edge, 1));
            check.is("edgeEnd(" + edge + ")", x.edgeEnd(edge), model.edgePart(edge, 2));
            check.is("appendCharacter(" + character + ")", x.appendCharacter(character),
                model.appendCharacter(character));
        }
    }
}
