import java.util.TreeSet;

/** The sentences of promises 18 to 26 that name a boundary or a refusal, each with a test of its own. */
final class WordSentencesTest {
    private static final int MIN = Integer.MIN_VALUE;
    private static final int MAX = Integer.MAX_VALUE;
    private static final String FORTY = "1011001110001111000011111000001111110000";

    private WordSentencesTest() {
    }

    static void run(Sentences sentences) {
        sentences.section("Promise 18: appendCharacter");
        sentences.test("`character`: the character code, 32 to 126", WordSentencesTest::allCharacters);
        sentences.test("Returns the new length of the input", WordSentencesTest::charactersAreCounted);
        sentences.test("BAD_VALUE if character is out of range (checked first)", WordSentencesTest::noCharacters);
        sentences.test("FULL if the input has 20 characters.", WordSentencesTest::aTwentyFirstCharacter);
        sentences.section("Promise 19: parseConstraint");
        sentences.test("Replaces the graph by the constraint that the input names, and clears the input.",
            WordSentencesTest::parsingClearsTheInput);
        sentences.test("Returns the number of states", WordSentencesTest::parsingTellsTheStates);
        sentences.test("SYNTAX_ERROR - k if the text is not valid", WordSentencesTest::wrongTexts);
        sentences.test("k is the smallest index such that no valid text starts with the first k + 1 characters of it",
            WordSentencesTest::theFirstWrongCharacter);
        sentences.test("or the length of the text if there is no such index (checked first)",
            WordSentencesTest::textsThatEndTooSoon);
        sentences.test("BAD_VALUE if the constraint is out of range.", WordSentencesTest::constraintsOutOfRange);
        sentences.section("Promise 20: appendBit");
        sentences.test("Returns the new length of the word", WordSentencesTest::bitsAreCounted);
        sentences.test("BAD_VALUE if bit is neither 0 nor 1 (checked first)", WordSentencesTest::noBits);
        sentences.test("FULL if the word has 40 bits.", WordSentencesTest::aFortyFirstBit);
        sentences.section("Promise 21: clearWord");
        sentences.test("Returns the length that the word had.", WordSentencesTest::clearWordTellsTheLength);
        sentences.section("Promise 22: wordLength");
        sentences.test("Returns 0 to 40.", WordSentencesTest::lengthsFromZeroToForty);
        sentences.section("Promise 23: wordBit");
        sentences.test("Returns 0 or 1", WordSentencesTest::everyBitIsTold);
        sentences.test("NONE if index is not an index of the word.", WordSentencesTest::noIndexOfTheWord);
        runViolations(sentences);
        sentences.section("Promise 25: balance");
        sentences.test("inverts its first j bits for the smallest j from 0 on for which the result has as many ones as "
            + "zeros.", WordSentencesTest::theSmallestPrefix);
        sentences.test("Returns j", WordSentencesTest::balanceFromNoneToHalf);
        sentences.test("ODD_LENGTH if the length of the word is odd.", WordSentencesTest::wordsOfOddLength);
        sentences.section("Promise 26: invert");
        sentences.test("Returns the number of ones of the new word", WordSentencesTest::invertTellsTheOnes);
        sentences.test("BAD_VALUE if count is negative or greater than the length of the word.",
            WordSentencesTest::invertOutOfRange);
    }

    private static void runViolations(Sentences sentences) {
        sentences.section("Promise 24: firstViolation");
        sentences.test("the greatest number m of labels such that the start state generates the first m times label "
            + "length bits of the word.", WordSentencesTest::theGreatestNumberOfLabels);
        sentences.test("Returns m if m times the label length is less than the length of the word",
            WordSentencesTest::violationsBeforeTheEnd);
        sentences.test("NONE if the state generates the word", WordSentencesTest::noViolation);
        sentences.test("NO_SUCH_STATE.", WordSentencesTest::violationFromNoSuchState);
    }

    private static void allCharacters(Check check) {
        for (int character = -2; character <= 130; character++) {
            boolean right = 32 <= character && character <= 126;
            check.is("appendCharacter(" + character + ")", new ConstrainedCoder().appendCharacter(character),
                right ? 1 : -3);
        }
    }

    private static void charactersAreCounted(Check check) {
        ConstrainedCoder x = new ConstrainedCoder();
        for (int length = 1; length <= 20; length++) {
            check.is("appendCharacter(32)", x.appendCharacter(32), length);
        }
        Effects.changesOnly(check, Scene.WORKING, "appendCharacter(126)", y -> y.appendCharacter(126),
            Everything.INPUT, Everything.INPUT_LENGTH);
    }

    private static void noCharacters(Check check) {
        for (int character : Calls.outside(32, 126)) {
            Effects.refusedEverywhere(check, "appendCharacter(" + character + ")",
                x -> x.appendCharacter(character), -3);
        }
        for (int character : new int[] {0, 10, 31, 127, 128, 160, 256 + 'r', 65536 + ' ', -'r'}) {
            Effects.refused(check, Scene.FULL, "appendCharacter(" + character + "), full",
                x -> x.appendCharacter(character), -3);
        }
    }

    private static void aTwentyFirstCharacter(Check check) {
        for (int character = 32; character <= 126; character++) {
            check.is("appendCharacter(" + character + ")", Scene.FULL.make().appendCharacter(character), -4);
        }
        Effects.refused(check, Scene.FULL, "appendCharacter(32)", x -> x.appendCharacter(32), -4);
        ConstrainedCoder x = new ConstrainedCoder();
        Calls.type(x, "rll 1 3");
        Calls.type(x, "             ");
        check.is("the 21st", x.appendCharacter('3'), -4);
        check.is("the 21st again", x.appendCharacter('3'), -4);
        check.is("parsing makes room", x.parseConstraint(), -107);
        check.is("the first", x.appendCharacter('r'), 1);
    }

    /** Whether it is parsed or refused, the input is empty then. */
    private static void parsingClearsTheInput(Check check) {
        String[] texts = {"rll 1 3", "charge 2", "rll 3 1", "charge 0", "", "r", "rll 1 ", "rll 1 3 ", "xyz",
            "charge 2            "};
        int[] answers = {4, 5, -3, -3, -100, -101, -106, -107, -100, -108};
        for (int i = 0; i < texts.length; i++) {
            ConstrainedCoder x = new ConstrainedCoder();
            check.is("\"" + texts[i] + "\"", Calls.parse(x, texts[i]), answers[i]);
            check.is("the input then", x.appendCharacter('c'), 1);
            check.is("with one character", x.parseConstraint(), -101);
            check.is("a whole text then", Calls.parse(x, "charge 1"), 3);
            check.is("nothing then", x.parseConstraint(), -100);
        }
    }

    private static void parsingTellsTheStates(Check check) {
        for (int d = 0; d <= 7; d++) {
            for (int k = d; k <= 7; k++) {
                ConstrainedCoder x = new ConstrainedCoder();
                check.is("rll " + d + " " + k, Calls.parse(x, "rll " + d + " " + k), k + 1);
                check.text("its graph", Calls.graphText(x), Calls.graphText(Calls.runLength(d, k)));
            }
        }
        for (int c = 1; c <= 7; c++) {
            ConstrainedCoder x = Scene.FULL.make();
            x.parseConstraint();
            check.is("charge " + c, Calls.parse(x, "charge " + c), 2 * c + 1);
            check.text("its graph", Calls.graphText(x), Calls.graphText(Calls.charge(c)));
        }
        Effects.changesOnly(check, () -> Scene.workingWith("charge 2"), "parseConstraint()", x -> x.parseConstraint(),
            Everything.GRAPH, Everything.ENCODER, Everything.ENCODER_START, Everything.INPUT,
            Everything.INPUT_LENGTH);
    }

    /** All else stays: only the input differs from what it was, and is as if nothing had been typed. */
    private static void leavesAllButTheInput(Check check, String text, int due) {
        check.is("\"" + text + "\"", Scene.workingWith(text).parseConstraint(), due);
        check.text("everything after \"" + text + "\"", Everything.allOf(() -> {
            ConstrainedCoder x = Scene.workingWith(text);
            x.parseConstraint();
            return x;
        }), Everything.allOf(() -> Scene.workingWith("")));
    }

    private static void wrongTexts(Check check) {
        leavesAllButTheInput(check, "", -100);
        leavesAllButTheInput(check, "R", -100);
        leavesAllButTheInput(check, "rll  1 3", -104);
        leavesAllButTheInput(check, "rll 1,3", -105);
        leavesAllButTheInput(check, "rll 1 3 ", -107);
        leavesAllButTheInput(check, "rll 1 33", -107);
        leavesAllButTheInput(check, "charge 12", -108);
        leavesAllButTheInput(check, "charge 2           x", -108);
        leavesAllButTheInput(check, "~~~~~~~~~~~~~~~~~~~~", -100);
    }

    private static TreeSet<String> validTexts() {
        TreeSet<String> texts = new TreeSet<>();
        for (char d = '0'; d <= '9'; d++) {
            texts.add("charge " + d);
            for (char k = '0'; k <= '9'; k++) {
                texts.add("rll " + d + " " + k);
            }
        }
        return texts;
    }

    private static boolean beginsValidText(TreeSet<String> valid, String begin) {
        String next = valid.ceiling(begin);
        return next != null && next.startsWith(begin);
    }

    /** Every beginning of a valid text, followed by every character with which it begins none. */
    private static void theFirstWrongCharacter(Check check) {
        TreeSet<String> valid = validTexts();
        TreeSet<String> begins = new TreeSet<>();
        for (String text : valid) {
            for (int length = 0; length <= text.length(); length++) {
                begins.add(text.substring(0, length));
            }
        }
        for (String begin : begins) {
            for (char next = 32; next <= 126; next++) {
                String text = begin + next;
                if (!beginsValidText(valid, text)) {
                    check.is("\"" + text + "\"", Calls.parse(new ConstrainedCoder(), text), -100 - begin.length());
                }
            }
            if (!beginsValidText(valid, begin + "1")) {
                check.is("\"" + begin + "1 3\"", Calls.parse(new ConstrainedCoder(), begin + "1 3"),
                    -100 - begin.length());
            }
        }
    }

    private static void textsThatEndTooSoon(Check check) {
        TreeSet<String> valid = validTexts();
        for (String text : valid) {
            for (int length = 0; length < text.length(); length++) {
                check.is("\"" + text.substring(0, length) + "\"",
                    Calls.parse(new ConstrainedCoder(), text.substring(0, length)), -100 - length);
            }
        }
        check.is("a number out of range, and no second one", Calls.parse(new ConstrainedCoder(), "rll 9 "), -106);
        check.is("a number out of range, and more", Calls.parse(new ConstrainedCoder(), "charge 9!"), -108);
        check.is("numbers out of range, and more", Calls.parse(new ConstrainedCoder(), "rll 9 8 "), -107);
    }

    private static void constraintsOutOfRange(Check check) {
        for (int d = 0; d <= 9; d++) {
            for (int k = 0; k <= 9; k++) {
                if (d > k || k > 7) {
                    leavesAllButTheInput(check, "rll " + d + " " + k, -3);
                }
            }
        }
        leavesAllButTheInput(check, "charge 0", -3);
        leavesAllButTheInput(check, "charge 8", -3);
        leavesAllButTheInput(check, "charge 9", -3);
    }

    private static void bitsAreCounted(Check check) {
        ConstrainedCoder x = new ConstrainedCoder();
        for (int i = 0; i < 40; i++) {
            check.is("appendBit", x.appendBit(FORTY.charAt(i) - '0'), i + 1);
        }
        check.text("the word", Calls.word(x), FORTY);
        Effects.changesOnly(check, Scene.WORKING, "appendBit(1)", y -> y.appendBit(1), Everything.WORD);
    }

    private static ConstrainedCoder afterBit(Scene scene) {
        ConstrainedCoder x = scene.make();
        x.appendBit(1);
        return x;
    }

    private static void noBits(Check check) {
        for (int bit : Calls.outside(0, 1)) {
            Effects.refusedEverywhere(check, "appendBit(" + bit + ")", x -> x.appendBit(bit), -3);
        }
        for (int bit : new int[] {'0', '1', 2, 3, 4, -1, 256, 257}) {
            Effects.refused(check, Scene.FULL, "appendBit(" + bit + "), full", x -> x.appendBit(bit), -3);
        }
    }

    private static void aFortyFirstBit(Check check) {
        Effects.refused(check, Scene.FULL, "appendBit(0)", x -> x.appendBit(0), -4);
        Effects.refused(check, Scene.FULL, "appendBit(1)", x -> x.appendBit(1), -4);
        ConstrainedCoder x = new ConstrainedCoder();
        Calls.setWord(x, FORTY);
        check.is("the 41st", x.appendBit(1), -4);
        check.is("the 41st again", x.appendBit(1), -4);
        check.text("the word", Calls.word(x), FORTY);
        x.clearWord();
        check.is("room again", x.appendBit(1), 1);
        ConstrainedCoder unranked = Calls.graph(4, 1, 0, 9, 0);
        unranked.unrank(0, 10, -1, 0);
        check.is("after unrank of 40 bits", unranked.appendBit(1), -4);
        ConstrainedCoder restored = new ConstrainedCoder();
        Calls.setWord(restored, FORTY);
        restored.saveSnapshot();
        restored.clearWord();
        restored.restoreSnapshot();
        check.is("after a snapshot of 40 bits", restored.appendBit(0), -4);
    }

    private static void clearWordTellsTheLength(Check check) {
        check.is("clearWord() of a new object", new ConstrainedCoder().clearWord(), 0);
        for (int length = 0; length <= 40; length++) {
            ConstrainedCoder x = new ConstrainedCoder();
            Calls.setWord(x, FORTY.substring(0, length));
            check.is("clearWord()", x.clearWord(), length);
            check.is("wordLength()", x.wordLength(), 0);
            check.is("wordBit(0)", x.wordBit(0), -5);
            check.is("clearWord() of the empty word", x.clearWord(), 0);
        }
        Effects.changesOnly(check, Scene.WORKING, "clearWord()", x -> x.clearWord(), Everything.WORD);
        Effects.changesOnly(check, Scene.FULL, "clearWord()", x -> x.clearWord(), Everything.WORD);
    }

    private static void lengthsFromZeroToForty(Check check) {
        ConstrainedCoder x = new ConstrainedCoder();
        check.is("at first", x.wordLength(), 0);
        for (int length = 1; length <= 40; length++) {
            x.appendBit(1);
            check.is("wordLength()", x.wordLength(), length);
        }
        x.appendBit(1);
        check.is("after a refused bit", x.wordLength(), 40);
        Effects.asks(check, "wordLength()", y -> y.wordLength());
    }

    private static void everyBitIsTold(Check check) {
        ConstrainedCoder x = new ConstrainedCoder();
        Calls.setWord(x, FORTY);
        for (int i = 0; i < 40; i++) {
            check.is("wordBit(" + i + ")", x.wordBit(i), FORTY.charAt(i) - '0');
        }
    }

    private static void noIndexOfTheWord(Check check) {
        for (int length : new int[] {0, 1, 2, 39, 40}) {
            ConstrainedCoder x = new ConstrainedCoder();
            Calls.setWord(x, FORTY);
            // A word that was longer before has no bits behind its end.
            x.clearWord();
            Calls.setWord(x, FORTY.substring(0, length));
            for (int index : Calls.outside(0, Math.max(0, length - 1))) {
                check.is("wordBit(" + index + ") of " + length, x.wordBit(index), -5);
            }
            check.is("the length itself", x.wordBit(length), -5);
        }
        Effects.asks(check, "wordBit(0)", x -> x.wordBit(0));
        Effects.asks(check, "wordBit(-1)", x -> x.wordBit(-1));
        Effects.asks(check, "wordBit(40)", x -> x.wordBit(40));
    }

    /** Every word of at most nine bits, compared with the model, which tries the paths. */
    private static void theGreatestNumberOfLabels(Check check) {
        Everything.Maker[] graphs = {() -> Calls.runLength(1, 2), () -> Calls.graph(2, 2, 0, 1, 1, 1, 2, 0, 1, 3, 1),
            () -> Calls.graph(3, 2, 0, 5, 0, 0, 5, 1, 1, 2, 0), () -> Calls.graph(1, 4, 0, 0, 1, 0, 0, 2, 1, 1, 1, 2,
            0, 3)};
        for (Everything.Maker maker : graphs) {
            for (int length = 0; length <= 9; length++) {
                for (int word = 0; word < 1 << length; word++) {
                    ConstrainedCoder x = maker.make();
                    for (int i = length - 1; i >= 0; i--) {
                        x.appendBit(word >> i & 1);
                    }
                    PlainModel model = PlainModel.of(x);
                    check.is("state 0, " + Calls.word(x), x.firstViolation(0), model.firstViolation(0));
                    check.is("state 1, " + Calls.word(x), x.firstViolation(1), model.firstViolation(1));
                }
            }
        }
    }

    private static void violationsBeforeTheEnd(Check check) {
        for (int length = 1; length <= 40; length++) {
            for (int wrong : new int[] {0, length / 2, length - 1}) {
                ConstrainedCoder y = Calls.graph(1, 1, 0, 1, 0);
                Calls.setWord(y, "1".repeat(wrong) + "0" + "1".repeat(length - wrong - 1));
                check.is("wrong at " + wrong + " of " + length, y.firstViolation(0), wrong);
            }
        }
        ConstrainedCoder four = Calls.graph(4, 1, 0, 11, 0);
        Calls.setWord(four, "1011".repeat(9) + "1010");
        check.is("the last bit of forty", four.firstViolation(0), 9);
        ConstrainedCoder dead = Calls.states(1, 1);
        dead.appendBit(1);
        check.is("no edges", dead.firstViolation(0), 0);
        Effects.asks(check, "firstViolation(0)", z -> z.firstViolation(0));
    }

    private static void noViolation(Check check) {
        for (int labels = 0; labels <= 10; labels++) {
            ConstrainedCoder x = Calls.graph(4, 1, 0, 11, 0);
            Calls.setWord(x, "1011".repeat(labels));
            check.is(labels + " labels", x.firstViolation(0), -5);
        }
        ConstrainedCoder three = Calls.graph(3, 2, 0, 4, 1, 1, 1, 0);
        Calls.setWord(three, "100001".repeat(6) + "100");
        check.is("39 bits of 13 labels", three.firstViolation(0), -5);
        check.is("from the other state", three.firstViolation(1), 0);
    }

    private static void violationFromNoSuchState(Check check) {
        for (int start : Calls.outside(0, 15)) {
            Effects.refusedEverywhere(check, "firstViolation(" + start + ")", x -> x.firstViolation(start), -1);
        }
        for (int start : Calls.outside(0, 2)) {
            Effects.refused(check, Scene.DEAD_END, "of the empty word", x -> x.firstViolation(start), -1);
            Effects.refused(check, Scene.WORKING, "of 3 states", x -> x.firstViolation(start), -1);
        }
        Effects.refused(check, Scene.NEW, "of the empty word, without states", x -> x.firstViolation(0), -1);
        Effects.refused(check, () -> afterBit(Scene.NEW), "without states", x -> x.firstViolation(0), -1);
    }

    private static void theSmallestPrefix(Check check) {
        for (int length = 0; length <= 10; length += 2) {
            for (int word = 0; word < 1 << length; word++) {
                ConstrainedCoder x = new ConstrainedCoder();
                for (int i = length - 1; i >= 0; i--) {
                    x.appendBit(word >> i & 1);
                }
                PlainModel model = PlainModel.of(x);
                String before = Calls.word(x);
                check.is("balance() of " + before, x.balance(), model.balance());
                check.text("the balanced " + before, Calls.word(x), model.word());
            }
        }
        Effects.changesOnly(check, Scene.FULL, "balance()", x -> x.balance(), Everything.WORD);
    }

    private static void balanceFromNoneToHalf(Check check) {
        for (int length = 0; length <= 40; length += 2) {
            ConstrainedCoder ones = new ConstrainedCoder();
            Calls.setWord(ones, "1".repeat(length));
            check.is("ones", ones.balance(), length / 2);
            check.is("balanced already", ones.balance(), 0);
            ConstrainedCoder zeros = new ConstrainedCoder();
            Calls.setWord(zeros, "0".repeat(length));
            check.is("zeros", zeros.balance(), length / 2);
            check.text("the word", Calls.word(zeros), "1".repeat(length / 2) + "0".repeat(length / 2));
        }
        // The first 38 bits undo one another, so that all bits but the last are needed.
        ConstrainedCoder most = new ConstrainedCoder();
        Calls.setWord(most, "10".repeat(19) + "00");
        check.is("19 ones of 40", most.balance(), 39);
        check.text("the word", Calls.word(most), "01".repeat(19) + "10");
    }

    private static void wordsOfOddLength(Check check) {
        for (int length = 1; length <= 39; length += 2) {
            int bits = length;
            Effects.refused(check, () -> {
                ConstrainedCoder x = Calls.runLength(0, 1);
                Calls.setWord(x, FORTY.substring(0, bits));
                return x;
            }, "balance() of " + length + " bits", x -> x.balance(), -8);
        }
        Effects.refused(check, Scene.OFF, "balance()", x -> x.balance(), -8);
        Effects.refused(check, () -> afterBit(Scene.WORKING), "balance() with an encoder", x -> x.balance(), -8);
    }

    private static void invertTellsTheOnes(Check check) {
        for (int count = 0; count <= 40; count++) {
            ConstrainedCoder x = new ConstrainedCoder();
            Calls.setWord(x, FORTY);
            int ones = 0;
            StringBuilder due = new StringBuilder();
            for (int i = 0; i < 40; i++) {
                int bit = i < count ? '1' - FORTY.charAt(i) : FORTY.charAt(i) - '0';
                due.append(bit);
                ones += bit;
            }
            check.is("invert(" + count + ")", x.invert(count), ones);
            check.text("the word", Calls.word(x), due.toString());
        }
        check.is("invert(0) of the empty word", new ConstrainedCoder().invert(0), 0);
        Effects.changesOnly(check, Scene.WORKING, "invert(8)", x -> x.invert(8), Everything.WORD);
    }

    private static void invertOutOfRange(Check check) {
        for (Scene scene : Scene.values()) {
            int length = scene.make().wordLength();
            for (int count : Calls.outside(0, length)) {
                Effects.refused(check, scene, "invert(" + count + ") when " + scene, x -> x.invert(count), -3);
            }
        }
        Effects.refused(check, Scene.NEW, "invert(1) of the empty word", x -> x.invert(1), -3);
        Effects.refused(check, Scene.FULL, "invert(41) of 40 bits", x -> x.invert(41), -3);
        Effects.refused(check, Scene.OFF, "invert(6) of 5 bits", x -> x.invert(6), -3);
        Effects.refused(check, Scene.OFF, "the least count", x -> x.invert(MIN), -3);
        Effects.refused(check, Scene.OFF, "the greatest count", x -> x.invert(MAX), -3);
    }
}
