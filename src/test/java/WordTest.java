/** Promises 18 to 26: text and the current word. */
final class WordTest {
    private static final int MIN = Integer.MIN_VALUE;
    private static final int MAX = Integer.MAX_VALUE;

    private WordTest() {
    }

    static void run(Check check) {
        appendCharacter(check);
        parseValidTexts(check);
        parseSyntaxErrors(check);
        parseOutOfRange(check);
        parseKeepsTheRest(check);
        appendBit(check);
        clearWord(check);
        wordBit(check);
        firstViolation(check);
        firstViolationOfLongLabels(check);
        firstViolationOfManyPaths(check);
        balance(check);
        invert(check);
    }

    private static void appendCharacter(Check check) {
        check.about("promise 18");
        ConstrainedCoder x = new ConstrainedCoder();
        for (int character : new int[] {31, 127, 0, -1, MIN, MAX, 32 + 256, 65536 + 'r'}) {
            check.is("character out of range", x.appendCharacter(character), -3);
        }
        check.is("appendCharacter(32)", x.appendCharacter(32), 1);
        check.is("appendCharacter(126)", x.appendCharacter(126), 2);
        for (int i = 3; i <= 20; i++) {
            check.is("appendCharacter", x.appendCharacter('r'), i);
        }
        check.is("character 21", x.appendCharacter('r'), -4);
        check.is("out of range comes before full", x.appendCharacter(31), -3);
        check.is("parse clears it", x.parseConstraint(), -100);
        check.is("room again", x.appendCharacter('r'), 1);
    }

    private static void parseValidTexts(Check check) {
        check.about("promise 19");
        ConstrainedCoder x = new ConstrainedCoder();
        check.is("rll 1 3", Calls.parse(x, "rll 1 3"), 4);
        check.text("graph", Calls.graphText(x), "1/4: 0-0-1 1-0-2 1-1-0 2-0-3 2-1-0 3-1-0");
        check.is("charge 1", Calls.parse(x, "charge 1"), 3);
        check.text("graph", Calls.graphText(x), "1/3: 0-1-1 1-0-0 1-1-2 2-0-1");
        check.is("rll 0 0", Calls.parse(x, "rll 0 0"), 1);
        check.is("rll 7 7", Calls.parse(x, "rll 7 7"), 8);
        check.is("charge 7", Calls.parse(x, "charge 7"), 15);
        check.is("the input is empty then", x.parseConstraint(), -100);
    }

    private static void parseSyntaxErrors(Check check) {
        check.about("promise 19, syntax");
        ConstrainedCoder x = Calls.runLength(2, 5);
        String[] texts = {"", "r", "rl", "rll", "rll ", "rll 1", "rll 1 ", "c", "charge", "charge ", "rll 1 3 ",
            "rll 1 33", "charge 22", "charge 2 ", " rll 1 3", "Rll 1 3", "rlx", "rll  1 3", "rll a 3", "rll 1  3",
            "rll 1 x", "rll 12", "rll -1 3", "charge  2", "charge x", "charge:", "chargr 2", "cll 1 3", "rharge 2",
            "rll 1 3xxxxxxxxxxxxx", "rll # #", "charge #", "rll / 3", "rll : 3", "rll 1 /", "rll 1 :", "charge /"};
        int[] positions = {0, 1, 2, 3, 4, 5, 6, 1, 6, 7, 7, 7, 8, 8, 0, 0, 2, 4, 4, 6, 6, 5, 4, 7, 7, 6, 5, 1, 1,
            7, 4, 7, 4, 4, 6, 6, 7};
        for (int i = 0; i < texts.length; i++) {
            check.is("\"" + texts[i] + "\"", Calls.parse(x, texts[i]), -100 - positions[i]);
            check.is("the input is empty then", x.appendCharacter('q'), 1);
            check.is("and so it is wrong at 0", x.parseConstraint(), -100);
        }
        check.is("the graph stays", x.stateCount(), 6);
    }

    private static void parseOutOfRange(Check check) {
        check.about("promise 19, out of range");
        ConstrainedCoder x = Calls.graph(1, 1, 0, 0, 0, 0, 1, 0);
        x.startEncoder(1, 0);
        x.encode(1);
        for (String text : new String[] {"rll 3 1", "rll 0 8", "rll 9 9", "rll 1 0", "charge 0", "charge 8", "charge 9"}) {
            check.is(text, Calls.parse(x, text), -3);
            check.is("the input is empty then", x.appendCharacter('q'), 1);
            check.is("and so it is wrong at 0", x.parseConstraint(), -100);
        }
        check.text("the graph stays", Calls.graphText(x), "1/1: 0-0-0 0-1-0");
        check.text("the word stays", Calls.word(x), "1");
        check.is("the encoder stays", x.encoderState(), 0);
        check.is("a valid text", Calls.parse(x, "rll 0 1"), 2);
        check.is("turns the encoder off", x.encoderState(), -7);
    }

    private static void parseKeepsTheRest(Check check) {
        check.about("promise 19, the input stays until it is parsed");
        ConstrainedCoder x = new ConstrainedCoder();
        Calls.type(x, "rll ");
        x.loadCharge(2);
        x.clear(2);
        x.clearWord();
        x.saveSnapshot();
        x.restoreSnapshot();
        Calls.type(x, "0 2");
        check.is("parseConstraint()", x.parseConstraint(), 3);
    }

    private static void appendBit(Check check) {
        check.about("promises 20 and 22");
        ConstrainedCoder x = new ConstrainedCoder();
        for (int bit : new int[] {2, -1, MIN, MAX}) {
            check.is("neither 0 nor 1", x.appendBit(bit), -3);
        }
        check.is("wordLength()", x.wordLength(), 0);
        for (int i = 1; i <= 40; i++) {
            check.is("appendBit", x.appendBit(i % 2), i);
            check.is("wordLength()", x.wordLength(), i);
        }
        check.is("bit 41", x.appendBit(1), -4);
        check.is("a bad bit comes before full", x.appendBit(2), -3);
        check.is("wordLength()", x.wordLength(), 40);
        check.is("wordBit(39)", x.wordBit(39), 0);
        check.is("wordBit(38)", x.wordBit(38), 1);
    }

    private static void clearWord(Check check) {
        check.about("promise 21");
        ConstrainedCoder x = new ConstrainedCoder();
        check.is("clearWord() of the empty word", x.clearWord(), 0);
        Calls.setWord(x, "10110");
        check.is("clearWord()", x.clearWord(), 5);
        check.is("wordLength()", x.wordLength(), 0);
        check.is("wordBit(0)", x.wordBit(0), -5);
        check.is("clearWord() again", x.clearWord(), 0);
    }

    private static void wordBit(Check check) {
        check.about("promise 23");
        ConstrainedCoder x = new ConstrainedCoder();
        check.is("wordBit(0) of the empty word", x.wordBit(0), -5);
        Calls.setWord(x, "011");
        check.is("wordBit(0)", x.wordBit(0), 0);
        check.is("wordBit(1)", x.wordBit(1), 1);
        check.is("wordBit(2)", x.wordBit(2), 1);
        for (int index : new int[] {3, -1, 40, 41, MIN, MAX}) {
            check.is("no index", x.wordBit(index), -5);
        }
    }

    private static void firstViolation(Check check) {
        check.about("promise 24");
        ConstrainedCoder x = Calls.runLength(1, 3);
        for (int start : new int[] {-1, 4, MIN, MAX}) {
            check.is("no such state", x.firstViolation(start), -1);
        }
        check.is("the empty word", x.firstViolation(3), -5);
        Calls.setWord(x, "0100010");
        check.is("a word that is generated", x.firstViolation(0), -5);
        check.is("from state 3", x.firstViolation(3), 0);
        Calls.setWord(x, "0110");
        check.is("two ones", x.firstViolation(0), 2);
        Calls.setWord(x, "010000");
        check.is("four zeros", x.firstViolation(0), 5);
        check.is("without states", new ConstrainedCoder().firstViolation(0), -1);
        ConstrainedCoder dead = Calls.states(1, 1);
        check.is("a state without edges, empty word", dead.firstViolation(0), -5);
        dead.appendBit(0);
        check.is("a state without edges", dead.firstViolation(0), 0);
    }

    private static void firstViolationOfLongLabels(Check check) {
        check.about("promise 24, long labels");
        ConstrainedCoder x = Calls.graph(3, 2, 0, 6, 1, 1, 3, 0);
        Calls.setWord(x, "110011110");
        check.is("three labels", x.firstViolation(0), -5);
        check.is("from state 1", x.firstViolation(1), 0);
        x.appendBit(0);
        check.is("a rest of one bit", x.firstViolation(0), 3);
        x.appendBit(1);
        check.is("a rest of two bits", x.firstViolation(0), 3);
        x.appendBit(0);
        check.is("a wrong fourth label", x.firstViolation(0), 3);
        Calls.setWord(x, "1");
        check.is("one bit only", x.firstViolation(0), 0);
        Calls.setWord(x, "11000");
        check.is("one label and a rest", x.firstViolation(0), 1);
        ConstrainedCoder four = Calls.graph(4, 1, 0, 9, 0);
        Calls.setWord(four, "1001100110011001100110011001100110011001");
        check.is("ten labels of four bits", four.firstViolation(0), -5);
        four.invert(0);
        ConstrainedCoder three = Calls.graph(3, 1, 0, 0, 0);
        Calls.setWord(three, "0000000000000000000000000000000000000000");
        check.is("forty bits of three", three.firstViolation(0), 13);
    }

    private static void firstViolationOfManyPaths(Check check) {
        check.about("promise 24, many paths");
        ConstrainedCoder x = Calls.graph(1, 4, 0, 0, 1, 0, 0, 2, 1, 1, 1, 2, 0, 3);
        Calls.setWord(x, "00");
        check.is("the second path", x.firstViolation(0), -5);
        Calls.setWord(x, "0111");
        check.is("the first path", x.firstViolation(0), -5);
        Calls.setWord(x, "0110");
        check.is("no path", x.firstViolation(0), 3);
    }

    private static void balance(Check check) {
        check.about("promise 25");
        ConstrainedCoder x = new ConstrainedCoder();
        check.is("the empty word", x.balance(), 0);
        String[] words = {"11", "00", "10", "1111", "0000", "1110", "0111", "110100", "011111", "1111111100000000"};
        int[] due = {1, 1, 0, 2, 2, 1, 3, 0, 4, 0};
        String[] balanced = {"01", "10", "10", "0011", "1100", "0110", "1001", "110100", "100011", "1111111100000000"};
        for (int i = 0; i < words.length; i++) {
            Calls.setWord(x, words[i]);
            check.is("balance() of " + words[i], x.balance(), due[i]);
            check.text("the balanced word", Calls.word(x), balanced[i]);
        }
        Calls.setWord(x, "101");
        check.is("an odd length", x.balance(), -8);
        check.text("the word stays", Calls.word(x), "101");
        Calls.setWord(x, "1111111111111111111111111111111111111111");
        check.is("forty ones", x.balance(), 20);
    }

    private static void invert(Check check) {
        check.about("promise 26");
        ConstrainedCoder x = new ConstrainedCoder();
        check.is("invert(0) of the empty word", x.invert(0), 0);
        check.is("invert(1) of the empty word", x.invert(1), -3);
        Calls.setWord(x, "11010");
        check.is("invert(3)", x.invert(3), 2);
        check.text("the word", Calls.word(x), "00110");
        check.is("invert(0)", x.invert(0), 2);
        check.is("invert(5)", x.invert(5), 3);
        check.text("the word", Calls.word(x), "11001");
        for (int count : new int[] {6, -1, MIN, MAX}) {
            check.is("out of range", x.invert(count), -3);
        }
        check.text("the word stays", Calls.word(x), "11001");
    }
}
