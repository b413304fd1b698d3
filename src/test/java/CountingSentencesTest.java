/** The sentences of promises 27 to 32 that name a boundary or a refusal, each with a test of its own. */
final class CountingSentencesTest {
    private static final int MIN = Integer.MIN_VALUE;
    private static final int MAX = Integer.MAX_VALUE;

    private CountingSentencesTest() {
    }

    static void run(Sentences sentences) {
        sentences.section("Promise 27: countWords");
        sentences.test("`labels`: the number of labels, 0 to 10", CountingSentencesTest::zeroToTenLabels);
        sentences.test("`ones`: the number of ones, or -1 for any number", CountingSentencesTest::anyNumberOfOnes);
        sentences.test("Returns the number of words of a given number of labels that a state of a deterministic graph "
            + "generates and that have a given number of ones.", CountingSentencesTest::countsOfListedWords);
        sentences.test("Returns the number of words", CountingSentencesTest::noneToAllWords);
        sentences.test("NO_SUCH_STATE (checked first)", CountingSentencesTest::countFromNoSuchState);
        sentences.test("BAD_VALUE if labels is out of range", CountingSentencesTest::countLabelsOutOfRange);
        sentences.test("or ones is less than -1 (checked second)", CountingSentencesTest::countOnesOutOfRange);
        sentences.test("NOT_DETERMINISTIC.", CountingSentencesTest::countWithoutDeterminism);
        sentences.section("Promise 28: unrank");
        sentences.test("Replaces the current word by the word with a given rank among the words that `countWords` counts, "
            + "in lexicographic order.", CountingSentencesTest::listedWordsOfEachRank);
        sentences.test("`rank`: the rank, from 0", CountingSentencesTest::theFirstAndTheLastRank);
        sentences.test("Returns the length of the word in bits", CountingSentencesTest::unrankTellsTheLength);
        sentences.test("NO_SUCH_STATE (checked first)", CountingSentencesTest::unrankFromNoSuchState);
        sentences.test("BAD_VALUE if labels is out of range", CountingSentencesTest::unrankLabelsOutOfRange);
        sentences.test("or ones is less than -1 (checked second)", CountingSentencesTest::unrankOnesOutOfRange);
        sentences.test("NOT_DETERMINISTIC (checked third)", CountingSentencesTest::unrankWithoutDeterminism);
        sentences.test("NONE if there is no word with this rank.", CountingSentencesTest::noWordWithThisRank);
        sentences.section("Promise 29: rank");
        sentences.test("Returns the rank of the current word among the words of the same length that a state of a "
            + "deterministic graph generates, in lexicographic order.", CountingSentencesTest::ranksOfListedWords);
        sentences.test("If onesOnly is 1, only words with the same number of ones as the current word count.",
            CountingSentencesTest::onlyWordsOfTheSameOnes);
        sentences.test("Returns the rank, from 0", CountingSentencesTest::ranksFromZero);
        sentences.test("NO_SUCH_STATE (checked first)", CountingSentencesTest::rankFromNoSuchState);
        sentences.test("BAD_VALUE if onesOnly is neither 0 nor 1 (checked second)",
            CountingSentencesTest::onesOnlyOutOfRange);
        sentences.test("NOT_DETERMINISTIC (checked third)", CountingSentencesTest::rankWithoutDeterminism);
        sentences.test("NONE if the state does not generate the current word",
            CountingSentencesTest::wordsThatAreNotGenerated);
        sentences.test("or the word has more than 10 labels.", CountingSentencesTest::wordsOfElevenLabels);
        runGrowthAndEigenvectors(sentences);
    }

    private static void runGrowthAndEigenvectors(Sentences sentences) {
        sentences.section("Promise 30: growthRate");
        sentences.test("Start with the value 1.0 for every state.", CountingSentencesTest::everyStateBeginsWithOne);
        sentences.test("the sum, starting at 0.0, of the old values of the ends of its edges",
            CountingSentencesTest::sumsOfOldValues);
        sentences.test("added in the order of the edges", CountingSentencesTest::theOrderOfTheSum);
        sentences.test("the maximum of the new values of all states", CountingSentencesTest::theMaximumOfAllStates);
        sentences.test("if m is greater than 0.0, every new value is divided by m.",
            CountingSentencesTest::valuesAreDivided);
        sentences.test("`iterations`: the number of iterations, 1 to 100", CountingSentencesTest::oneToAHundred);
        sentences.test("Returns the bits of the m of the last iteration", CountingSentencesTest::theLastIteration);
        sentences.test("which are those of 0.0 if there are no states", CountingSentencesTest::growthWithoutStates);
        sentences.test("BAD_VALUE if iterations is out of range.", CountingSentencesTest::iterationsOutOfRange);
        sentences.section("Promise 31: eigenvectorElement");
        sentences.test("`p`: the number, 1 to 4", check -> everyP(check, true));
        sentences.test("BAD_VALUE if p is out of range (checked first)", CountingSentencesTest::elementOfWrongP);
        sentences.test("NO_SUCH_STATE (checked second)", CountingSentencesTest::elementOfNoSuchState);
        sentences.test("NONE if no eigenvector is found.", CountingSentencesTest::elementOfNoVector);
        sentences.section("Promise 32: eigenvectorBound");
        sentences.test("`p`: the number, 1 to 4", check -> everyP(check, false));
        sentences.test("Returns the bound, 1 to 32", CountingSentencesTest::boundsFromOneToThirtyTwo);
        sentences.test("BAD_VALUE if p is out of range (checked first)", CountingSentencesTest::boundOfWrongP);
        sentences.test("NONE if no eigenvector is found.", CountingSentencesTest::boundOfNoVector);
    }

    /** One state with a loop of each label. */
    static ConstrainedCoder allLabels(int labelLength) {
        ConstrainedCoder x = Calls.states(labelLength, 1);
        for (int label = 0; label < 1 << labelLength; label++) {
            x.addEdge(0, label, 0);
        }
        return x;
    }

    /** A word is there, and of the three states the last, which none reaches, has two edges of one label. */
    static ConstrainedCoder notDeterministic() {
        ConstrainedCoder x = Calls.graph(1, 3, 0, 0, 0, 0, 1, 1, 1, 1, 0, 2, 0, 0, 2, 0, 1);
        Calls.setWord(x, "0110");
        return x;
    }

    private static void zeroToTenLabels(Check check) {
        for (int bits = 1; bits <= 4; bits++) {
            for (int labels = 0; labels <= 10; labels++) {
                check.is(labels + " labels of " + bits, allLabels(bits).countWords(0, labels, -1),
                    1L << bits * labels);
                check.is("without ones", allLabels(bits).countWords(0, labels, 0), 1);
                check.is("all ones", allLabels(bits).countWords(0, labels, bits * labels), 1);
            }
        }
        Effects.asks(check, "countWords(0, 10, -1)", x -> x.countWords(0, 10, -1));
        Effects.asks(check, "countWords(0, 3, 2)", x -> x.countWords(0, 3, 2));
    }

    private static void anyNumberOfOnes(Check check) {
        long[] binomials = {1, 10, 45, 120, 210, 252, 210, 120, 45, 10, 1};
        for (int ones = 0; ones <= 10; ones++) {
            check.is(ones + " ones of 10", allLabels(1).countWords(0, 10, ones), binomials[ones]);
        }
        check.is("any number", allLabels(1).countWords(0, 10, -1), 1024);
        for (int labels = 0; labels <= 5; labels++) {
            ConstrainedCoder x = Calls.runLength(1, 3);
            x.power(2);
            long sum = 0;
            for (int ones = 0; ones <= 10; ones++) {
                sum += x.countWords(1, labels, ones);
            }
            check.is("the sum", x.countWords(1, labels, -1), sum);
        }
    }

    /** Deterministic graphs whose words can be listed; some have 64 edges, and some had others that were removed. */
    private static Everything.Maker[] listable() {
        return new Everything.Maker[] {() -> Calls.runLength(1, 3), () -> Calls.runLength(0, 2), () -> Calls.charge(2),
            () -> Calls.graph(2, 3, 0, 3, 1, 0, 1, 2, 1, 2, 0, 1, 0, 1, 2, 1, 0), () -> powered(Calls.charge(3), 2),
            () -> powered(Calls.runLength(2, 5), 4), Scene.DETERMINISTIC, Scene.DEAD_END,
            CountingSentencesTest::sixtyFourOfManyLabels, CountingSentencesTest::withRemovedEdges};
    }

    private static ConstrainedCoder powered(ConstrainedCoder x, int q) {
        x.power(q);
        return x;
    }

    /** Four edges of sixteen labels at each of sixteen states. */
    private static ConstrainedCoder sixtyFourOfManyLabels() {
        ConstrainedCoder x = Calls.states(4, 16);
        for (int e = 0; e < 64; e++) {
            x.addEdge(e % 16, (e / 16 * 5 + e) % 16, (e * 7 + 2) % 16);
        }
        return x;
    }

    private static ConstrainedCoder withRemovedEdges() {
        ConstrainedCoder x = Calls.graph(1, 2, 0, 1, 1, 1, 1, 0, 1, 0, 0, 0, 0, 0);
        x.removeEdge(3);
        return x;
    }

    private static void countsOfListedWords(Check check) {
        for (Everything.Maker maker : listable()) {
            PlainModel model = PlainModel.of(maker.make());
            for (int labels = 0; labels <= 3; labels++) {
                for (int start = 0; start < Math.min(3, model.stateCount()); start++) {
                    ConstrainedCoder x = maker.make();
                    for (int ones = -1; ones <= labels * model.labelLength() + 1; ones++) {
                        check.is("countWords(" + start + ", " + labels + ", " + ones + ")",
                            x.countWords(start, labels, ones), model.countWords(start, labels, ones));
                    }
                }
            }
        }
    }

    private static void listedWordsOfEachRank(Check check) {
        for (Everything.Maker maker : listable()) {
            PlainModel model = PlainModel.of(maker.make());
            int labels = model.labelLength() == 1 ? 6 : 2;
            for (int ones = -1; ones <= 6; ones++) {
                long count = model.countWords(0, labels, ones);
                for (long rank = 0; rank <= count; rank++) {
                    ConstrainedCoder x = maker.make();
                    check.is("unrank(0, " + labels + ", " + ones + ", " + rank + ")", x.unrank(0, labels, ones, rank),
                        model.unrank(0, labels, ones, rank));
                    check.text("the word", Calls.word(x), rank < count ? model.word() : Calls.word(maker.make()));
                }
            }
        }
    }

    private static void ranksOfListedWords(Check check) {
        for (Everything.Maker maker : listable()) {
            PlainModel model = PlainModel.of(maker.make());
            int labels = model.labelLength() == 1 ? 6 : 2;
            long count = model.countWords(1, labels, -1);
            for (int rank = 0; rank < count; rank++) {
                model.unrank(1, labels, -1, rank);
                ConstrainedCoder x = maker.make();
                Calls.setWord(x, model.word());
                check.is("rank(1, 0) of " + model.word(), x.rank(1, 0), rank);
                check.is("rank(1, 1) of " + model.word(), x.rank(1, 1), model.rank(1, 1));
            }
        }
    }

    private static void noneToAllWords(Check check) {
        check.is("none", Calls.graph(1, 2, 0, 0, 1).countWords(0, 2, -1), 0);
        check.is("none at once", Calls.states(1, 1).countWords(0, 1, -1), 0);
        check.is("one", Calls.graph(1, 2, 0, 0, 1).countWords(0, 1, -1), 1);
        check.is("more than an int holds", allLabels(4).countWords(0, 8, -1), 1L << 32);
        check.is("all", allLabels(4).countWords(0, 10, -1), 1L << 40);
        check.is("20 ones of 40", allLabels(4).countWords(0, 10, 20), 137846528820L);
    }

    private static void countFromNoSuchState(Check check) {
        for (int start : Calls.outside(0, 15)) {
            Effects.refusedEverywhere(check, "countWords(" + start + ", 3, -1)", x -> x.countWords(start, 3, -1), -1);
            Effects.refused(check, Scene.DETERMINISTIC, "and labels", x -> x.countWords(start, 11, -1), -1);
            Effects.refused(check, Scene.DETERMINISTIC, "and ones", x -> x.countWords(start, 3, -2), -1);
            Effects.refused(check, Scene.WORKING, "and determinism", x -> x.countWords(start, 3, -1), -1);
        }
        Effects.refused(check, Scene.DETERMINISTIC, "state 3 of 3", x -> x.countWords(3, 3, -1), -1);
        Effects.refused(check, Scene.NEW, "without states", x -> x.countWords(0, 0, -1), -1);
        Effects.refused(check, Scene.NEW, "without states", x -> x.countWords(0, -1, -2), -1);
    }

    private static void countLabelsOutOfRange(Check check) {
        for (int labels : Calls.outside(0, 10)) {
            for (Scene scene : new Scene[] {Scene.WORKING, Scene.DETERMINISTIC, Scene.FULL, Scene.DEAD_END}) {
                Effects.refused(check, scene, labels + " labels", x -> x.countWords(0, labels, -1), -3);
                Effects.refused(check, scene, labels + " labels, too many ones", x -> x.countWords(0, labels, 41), -3);
            }
        }
        Effects.refused(check, CountingSentencesTest::notDeterministic, "and determinism",
            x -> x.countWords(0, 11, -1), -3);
    }

    private static void countOnesOutOfRange(Check check) {
        for (int ones : new int[] {-2, -3, -256, -65536, -65537, MIN, MIN + 1, MIN + 3, -(1 << 30)}) {
            for (Scene scene : new Scene[] {Scene.WORKING, Scene.DETERMINISTIC, Scene.FULL, Scene.DEAD_END}) {
                Effects.refused(check, scene, ones + " ones", x -> x.countWords(0, 3, ones), -3);
                Effects.refused(check, scene, ones + " ones of no labels", x -> x.countWords(0, 0, ones), -3);
            }
        }
        Effects.refused(check, CountingSentencesTest::notDeterministic, "and determinism",
            x -> x.countWords(0, 3, -2), -3);
    }

    private static void countWithoutDeterminism(Check check) {
        for (int start = 0; start < 3; start++) {
            int from = start;
            for (int labels = 0; labels <= 10; labels++) {
                int length = labels;
                Effects.refused(check, CountingSentencesTest::notDeterministic, labels + " labels",
                    x -> x.countWords(from, length, -1), -6);
            }
            Effects.refused(check, Scene.WORKING, "countWords", x -> x.countWords(from, 2, 1), -6);
            Effects.refused(check, Scene.WORKING, "more ones than bits", x -> x.countWords(from, 2, MAX), -6);
        }
        check.is("the same edge twice", Calls.loops(2).countWords(0, 1, -1), -6);
    }

    private static void theFirstAndTheLastRank(Check check) {
        for (int bits = 1; bits <= 4; bits++) {
            for (int labels = 0; labels <= 10; labels++) {
                ConstrainedCoder x = allLabels(bits);
                check.is("the first", x.unrank(0, labels, -1, 0), bits * labels);
                check.text("the word", Calls.word(x), "0".repeat(bits * labels));
                check.is("the last", x.unrank(0, labels, -1, (1L << bits * labels) - 1), bits * labels);
                check.text("the word", Calls.word(x), "1".repeat(bits * labels));
            }
        }
        ConstrainedCoder x = allLabels(4);
        check.is("the first of 20 ones", x.unrank(0, 10, 20, 0), 40);
        check.text("the word", Calls.word(x), "0".repeat(20) + "1".repeat(20));
        check.is("the last of 20 ones", x.unrank(0, 10, 20, 137846528819L), 40);
        check.text("the word", Calls.word(x), "1".repeat(20) + "0".repeat(20));
        check.is("2^32 and 5", x.unrank(0, 10, -1, (1L << 32) + 5), 40);
        check.text("the word", Calls.word(x), "0000000100000000000000000000000000000101");
    }

    private static void unrankTellsTheLength(Check check) {
        for (int labels = 0; labels <= 10; labels++) {
            ConstrainedCoder x = Calls.runLength(0, 3);
            Calls.setWord(x, "11011");
            check.is("unrank", x.unrank(0, labels, -1, 0), labels);
            check.is("wordLength()", x.wordLength(), labels);
            for (int bits = 2; bits <= 4; bits++) {
                ConstrainedCoder y = allLabels(bits);
                check.is("unrank of " + bits + " bits a label", y.unrank(0, labels, -1, 0), bits * labels);
                check.is("wordLength()", y.wordLength(), bits * labels);
            }
        }
        Effects.changesOnly(check, Scene.DETERMINISTIC, "unrank(0, 5, -1, 7)", x -> x.unrank(0, 5, -1, 7),
            Everything.WORD);
        Effects.changesOnly(check, Scene.FULL, "unrank(0, 0, -1, 0)", x -> x.unrank(0, 0, -1, 0), Everything.WORD);
    }

    private static void unrankFromNoSuchState(Check check) {
        for (int start : Calls.outside(0, 15)) {
            Effects.refusedEverywhere(check, "unrank(" + start + ", ..)", x -> x.unrank(start, 3, -1, 0), -1);
            Effects.refused(check, Scene.DETERMINISTIC, "and labels", x -> x.unrank(start, 11, -1, 0), -1);
            Effects.refused(check, Scene.DETERMINISTIC, "and ones", x -> x.unrank(start, 3, -2, 0), -1);
            Effects.refused(check, Scene.DETERMINISTIC, "and rank", x -> x.unrank(start, 3, -1, -1), -1);
            Effects.refused(check, Scene.WORKING, "and determinism", x -> x.unrank(start, 3, -1, 0), -1);
        }
        Effects.refused(check, Scene.DETERMINISTIC, "state 3 of 3", x -> x.unrank(3, 3, -1, 0), -1);
        Effects.refused(check, Scene.NEW, "without states", x -> x.unrank(0, 0, -1, 0), -1);
    }

    private static void unrankLabelsOutOfRange(Check check) {
        for (int labels : Calls.outside(0, 10)) {
            for (Scene scene : new Scene[] {Scene.WORKING, Scene.DETERMINISTIC, Scene.FULL, Scene.DEAD_END}) {
                Effects.refused(check, scene, labels + " labels", x -> x.unrank(0, labels, -1, 0), -3);
                Effects.refused(check, scene, labels + " labels, rank -1", x -> x.unrank(0, labels, -1, -1), -3);
            }
        }
    }

    private static void unrankOnesOutOfRange(Check check) {
        for (int ones : new int[] {-2, -3, -256, -65536, -65537, MIN, MIN + 1, MIN + 3, -(1 << 30)}) {
            for (Scene scene : new Scene[] {Scene.WORKING, Scene.DETERMINISTIC, Scene.FULL, Scene.DEAD_END}) {
                Effects.refused(check, scene, ones + " ones", x -> x.unrank(0, 3, ones, 0), -3);
                Effects.refused(check, scene, ones + " ones, rank -1", x -> x.unrank(0, 0, ones, -1), -3);
            }
        }
    }

    private static void unrankWithoutDeterminism(Check check) {
        for (int start = 0; start < 3; start++) {
            int from = start;
            for (long rank : new long[] {0, 1, -1, 1L << 32, Long.MIN_VALUE, Long.MAX_VALUE}) {
                Effects.refused(check, CountingSentencesTest::notDeterministic, "rank " + rank,
                    x -> x.unrank(from, 2, -1, rank), -6);
                Effects.refused(check, Scene.WORKING, "rank " + rank, x -> x.unrank(from, 0, -1, rank), -6);
            }
        }
    }

    private static void noWordWithThisRank(Check check) {
        for (long rank : new long[] {4, 5, -1, -4, 256, 65536, 1L << 32, (1L << 32) + 1, (1L << 40) + 2, 1L << 62,
            Long.MAX_VALUE, Long.MIN_VALUE, Long.MIN_VALUE + 1, -(1L << 32), -(1L << 32) + 1}) {
            Effects.refused(check, Scene.OFF, "rank " + rank + " of 4", x -> x.unrank(0, 4, -1, rank), -5);
            Effects.refused(check, Scene.OFF, "rank " + rank + " of 3 with one one", x -> x.unrank(0, 4, 1, rank), -5);
        }
        Effects.refused(check, Scene.OFF, "rank 3 of 3 with one one", x -> x.unrank(0, 4, 1, 3), -5);
        check.is("rank 3 of 4", Scene.OFF.make().unrank(0, 4, -1, 3), 4);
        check.is("rank 2 of 3 with one one", Scene.OFF.make().unrank(0, 4, 1, 2), 4);
        Effects.refused(check, Scene.OFF, "rank 0 of no words", x -> x.unrank(0, 4, 4, 0), -5);
        Effects.refused(check, Scene.OFF, "more ones than bits", x -> x.unrank(0, 4, 5, 0), -5);
        Effects.refused(check, Scene.OFF, "very many ones", x -> x.unrank(0, 10, MAX, 0), -5);
        Effects.refused(check, Scene.OFF, "41 ones", x -> x.unrank(0, 10, 41, 0), -5);
        Effects.refused(check, Scene.OFF, "rank 1 of the empty word", x -> x.unrank(0, 0, -1, 1), -5);
        Effects.refused(check, Scene.OFF, "a one in the empty word", x -> x.unrank(0, 0, 1, 0), -5);
        Effects.refused(check, Scene.DEAD_END, "no paths", x -> x.unrank(1, 1, -1, 0), -5);
        Effects.refused(check, Scene.DEAD_END, "no long paths", x -> x.unrank(2, 2, -1, 0), -5);
        Effects.refused(check, Scene.FULL, "the number of all words", x -> x.unrank(0, 10, -1, 1L << 20), -5);
        Effects.refused(check, () -> allLabels(4), "2^40", x -> x.unrank(0, 10, -1, 1L << 40), -5);
    }

    private static void onlyWordsOfTheSameOnes(Check check) {
        for (int word = 0; word < 64; word++) {
            ConstrainedCoder x = allLabels(2);
            long smaller = 0;
            for (int other = 0; other < word; other++) {
                smaller += Integer.bitCount(other) == Integer.bitCount(word) ? 1 : 0;
            }
            for (int i = 5; i >= 0; i--) {
                x.appendBit(word >> i & 1);
            }
            check.is("rank(0, 1) of " + word, x.rank(0, 1), smaller);
            check.is("rank(0, 0) of " + word, x.rank(0, 0), word);
        }
    }

    private static void ranksFromZero(Check check) {
        for (int bits = 1; bits <= 4; bits++) {
            for (int labels = 1; labels <= 10; labels++) {
                ConstrainedCoder x = allLabels(bits);
                Calls.setWord(x, "0".repeat(bits * labels));
                check.is("the first", x.rank(0, 0), 0);
                check.is("the only one without ones", x.rank(0, 1), 0);
                x.invert(bits * labels);
                check.is("the last", x.rank(0, 0), (1L << bits * labels) - 1);
                check.is("the only one of ones", x.rank(0, 1), 0);
            }
        }
        ConstrainedCoder x = allLabels(4);
        Calls.setWord(x, "1".repeat(20) + "0".repeat(20));
        check.is("the last of 20 ones", x.rank(0, 1), 137846528819L);
        check.is("among all", x.rank(0, 0), (1L << 40) - (1L << 20));
        Effects.asks(check, "rank(0, 0)", y -> y.rank(0, 0));
        Effects.asks(check, "rank(0, 1)", y -> y.rank(0, 1));
    }

    private static void rankFromNoSuchState(Check check) {
        for (int start : Calls.outside(0, 15)) {
            Effects.refusedEverywhere(check, "rank(" + start + ", 0)", x -> x.rank(start, 0), -1);
            Effects.refusedEverywhere(check, "rank(" + start + ", 2)", x -> x.rank(start, 2), -1);
        }
        Effects.refused(check, Scene.WORKING, "state 3 of 3", x -> x.rank(3, 0), -1);
        Effects.refused(check, Scene.NEW, "without states", x -> x.rank(0, 0), -1);
        Effects.refused(check, Scene.NEW, "without states", x -> x.rank(0, -1), -1);
    }

    private static void onesOnlyOutOfRange(Check check) {
        for (int onesOnly : Calls.outside(0, 1)) {
            for (Scene scene : new Scene[] {Scene.WORKING, Scene.DETERMINISTIC, Scene.FULL, Scene.OFF,
                Scene.DEAD_END}) {
                Effects.refused(check, scene, "rank(0, " + onesOnly + ")", x -> x.rank(0, onesOnly), -3);
            }
            Effects.refused(check, CountingSentencesTest::notDeterministic, "and determinism",
                x -> x.rank(0, onesOnly), -3);
        }
    }

    private static void rankWithoutDeterminism(Check check) {
        for (int start = 0; start < 3; start++) {
            int from = start;
            Effects.refused(check, CountingSentencesTest::notDeterministic, "a word that is generated or not",
                x -> x.rank(from, 0), -6);
            Effects.refused(check, Scene.WORKING, "rank", x -> x.rank(from, 1), -6);
            Effects.refused(check, () -> {
                ConstrainedCoder x = notDeterministic();
                Calls.setWord(x, "111111111111");
                return x;
            }, "and more than ten labels", x -> x.rank(from, 0), -6);
            Effects.refused(check, () -> {
                ConstrainedCoder x = notDeterministic();
                x.clearWord();
                return x;
            }, "of the empty word", x -> x.rank(from, 0), -6);
        }
    }

    private static ConstrainedCoder withWord(Everything.Maker maker, String word) {
        ConstrainedCoder x = maker.make();
        Calls.setWord(x, word);
        return x;
    }

    private static void wordsThatAreNotGenerated(Check check) {
        String[] words = {"11", "0110", "0000", "01011", "0100000"};
        for (String word : words) {
            Effects.refused(check, () -> withWord(Scene.OFF, word), word, x -> x.rank(0, 0), -5);
            Effects.refused(check, () -> withWord(Scene.OFF, word), word, x -> x.rank(0, 1), -5);
        }
        Effects.refused(check, () -> withWord(Scene.OFF, "1000"), "from state 0", x -> x.rank(0, 0), -5);
        check.is("from state 1", withWord(Scene.OFF, "1000").rank(1, 0), 3);
        for (int bits = 2; bits <= 4; bits++) {
            int length = bits;
            for (int more = 1; more < bits; more++) {
                String word = "0".repeat(3 * bits + more);
                Effects.refused(check, () -> withWord(() -> allLabels(length), word), "no whole labels of " + bits,
                    x -> x.rank(0, 0), -5);
            }
        }
        Effects.refused(check, () -> withWord(() -> Calls.states(1, 1), "0"), "no edges", x -> x.rank(0, 0), -5);
    }

    private static void wordsOfElevenLabels(Check check) {
        for (int bits = 1; bits <= 3; bits++) {
            int length = bits;
            check.is("10 labels of " + bits, withWord(() -> allLabels(length), "1".repeat(10 * bits)).rank(0, 0),
                (1L << 10 * bits) - 1);
            for (int labels = 11; labels * bits <= 40; labels++) {
                String word = "0".repeat(labels * bits);
                Effects.refused(check, () -> withWord(() -> allLabels(length), word), labels + " labels of " + bits,
                    x -> x.rank(0, 0), -5);
                Effects.refused(check, () -> withWord(() -> allLabels(length), word), labels + " labels of " + bits,
                    x -> x.rank(0, 1), -5);
            }
        }
        check.is("10 labels of 4", withWord(() -> allLabels(4), "1".repeat(40)).rank(0, 0), (1L << 40) - 1);
    }

    private static long bits(double number) {
        return Double.doubleToLongBits(number);
    }

    private static void everyStateBeginsWithOne(Check check) {
        for (int edges = 0; edges <= 16; edges++) {
            ConstrainedCoder x = Calls.states(1, 16);
            for (int e = 0; e < edges; e++) {
                x.addEdge(7, 0, e);
            }
            check.is(edges + " edges", x.growthRate(1), bits(edges));
        }
        check.is("64 edges", Calls.loops(64).growthRate(1), bits(64.0));
        Effects.asks(check, "growthRate(1)", x -> x.growthRate(1));
        Effects.asks(check, "growthRate(100)", x -> x.growthRate(100));
    }

    /** State 0 adds 0.1, 0.2 and 0.3 in the second iteration, in the order of its edges, beside others. */
    private static ConstrainedCoder tenths(int first, int second, int third) {
        ConstrainedCoder x = Calls.states(1, 6);
        for (int i = 0; i < 10; i++) {
            x.addEdge(4, 0, 5);
        }
        x.addEdge(0, 0, first);
        x.addEdge(3, 0, 5);
        x.addEdge(0, 0, second);
        x.addEdge(2, 0, 5);
        x.addEdge(0, 0, third);
        x.addEdge(1, 0, 5);
        x.addEdge(2, 0, 5);
        x.addEdge(3, 0, 5);
        x.addEdge(3, 0, 5);
        return x;
    }

    private static void theOrderOfTheSum(Check check) {
        check.holds("the order matters", 0.1 + 0.2 + 0.3 != 0.3 + 0.2 + 0.1);
        check.is("rising", tenths(1, 2, 3).growthRate(2), bits(0.0 + 0.1 + 0.2 + 0.3));
        check.is("falling", tenths(3, 2, 1).growthRate(2), bits(0.0 + 0.3 + 0.2 + 0.1));
        check.is("otherwise", tenths(2, 3, 1).growthRate(2), bits(0.0 + 0.2 + 0.3 + 0.1));
    }

    private static void valuesAreDivided(Check check) {
        check.holds("3 by 10 is not 3 times a tenth", 3.0 / 10.0 != 3.0 * 0.1);
        ConstrainedCoder x = Calls.graph(1, 4, 0, 0, 1, 1, 0, 3, 1, 0, 3, 1, 0, 3);
        for (int i = 0; i < 10; i++) {
            x.addEdge(2, 0, 3);
        }
        check.is("growthRate(1)", x.growthRate(1), bits(10.0));
        check.is("growthRate(2)", x.growthRate(2), bits(3.0 / 10.0));
        check.is("growthRate(3), where m is 0.0", x.growthRate(3), 0);
        check.is("growthRate(4), after it", x.growthRate(4), 0);
        check.is("64 loops stay 64.0", Calls.loops(64).growthRate(100), bits(64.0));
        for (int iterations = 1; iterations <= 100; iterations++) {
            for (int steps = 2; steps <= 3; steps++) {
                ConstrainedCoder fading = fading(steps);
                check.is("rates below 1", fading.growthRate(iterations),
                    PlainModel.of(fading(steps)).growthRate(iterations));
            }
        }
    }

    /** Sixty edges over so many steps from state 0 lead to an end; only the loop of another state goes on. */
    private static ConstrainedCoder fading(int steps) {
        ConstrainedCoder x = Calls.states(1, 5);
        for (int i = 0; i < 60; i++) {
            x.addEdge(i % steps, 0, i % steps + 1);
        }
        x.addEdge(4, 0, 4);
        return x;
    }

    private static void sumsOfOldValues(Check check) {
        for (int k = 1; k <= 7; k++) {
            for (int iterations = 1; iterations <= 30; iterations++) {
                check.is("rll 0 " + k, Calls.runLength(0, k).growthRate(iterations),
                    PlainModel.of(Calls.runLength(0, k)).growthRate(iterations));
                check.is("charge " + k, Calls.charge(k).growthRate(iterations),
                    PlainModel.of(Calls.charge(k)).growthRate(iterations));
            }
        }
        for (Scene scene : Scene.values()) {
            for (int iterations : new int[] {1, 2, 3, 50, 99, 100}) {
                check.is("growthRate(" + iterations + ") when " + scene, scene.make().growthRate(iterations),
                    PlainModel.of(scene.make()).growthRate(iterations));
            }
        }
    }

    private static void theMaximumOfAllStates(Check check) {
        for (int most = 0; most < 16; most++) {
            ConstrainedCoder x = Calls.states(1, 16);
            for (int s = 0; s < 16; s++) {
                x.addEdge(s, 0, s);
            }
            x.addEdge(most, 1, most);
            check.is("two loops at state " + most, x.growthRate(100), bits(2.0));
        }
        for (int edges = 1; edges <= 62; edges++) {
            ConstrainedCoder x = Calls.graph(1, 3, 0, 0, 1);
            for (int i = 0; i < edges; i++) {
                x.addEdge(1, 0, 2);
            }
            check.is("growthRate(1)", x.growthRate(1), bits(edges));
            check.is("growthRate(2)", x.growthRate(2), bits(1.0));
            check.is("then nothing", x.growthRate(3), 0);
            ConstrainedCoder rest = Calls.graph(1, 3, 0, 0, 0);
            for (int i = 0; i < edges; i++) {
                rest.addEdge(1, 0, 2);
            }
            check.is("the loop alone has 1 by " + edges, rest.growthRate(2), bits(1.0 / edges));
        }
    }

    /** Two states: two edges lead there and one back, so that the rates are 2 and 1 by turns. */
    private static ConstrainedCoder byTurns() {
        return Calls.graph(1, 2, 0, 0, 1, 0, 1, 1, 1, 0, 0);
    }

    private static void oneToAHundred(Check check) {
        for (int iterations = 1; iterations <= 100; iterations++) {
            check.is("growthRate(" + iterations + ")", byTurns().growthRate(iterations),
                bits(iterations % 2 == 1 ? 2.0 : 1.0));
        }
    }

    private static void theLastIteration(Check check) {
        // A chain of 15 edges beside nothing else: the fifteenth iteration is the last one with a path.
        for (int iterations = 1; iterations <= 100; iterations++) {
            ConstrainedCoder chain = Calls.states(1, 16);
            for (int s = 0; s < 15; s++) {
                chain.addEdge(s, 0, s + 1);
            }
            check.is("growthRate(" + iterations + ")", chain.growthRate(iterations),
                bits(iterations <= 15 ? 1.0 : 0.0));
        }
    }

    private static void growthWithoutStates(Check check) {
        check.is("growthRate(1)", new ConstrainedCoder().growthRate(1), 0);
        check.is("growthRate(100)", new ConstrainedCoder().growthRate(100), 0);
        ConstrainedCoder x = Calls.loops(5);
        x.growthRate(4);
        x.clear(1);
        check.is("after clear", x.growthRate(2), 0);
    }

    private static void iterationsOutOfRange(Check check) {
        for (int iterations : Calls.outside(1, 100)) {
            Effects.refusedEverywhere(check, "growthRate(" + iterations + ")", x -> x.growthRate(iterations), -3);
        }
    }

    private static void everyP(Check check, boolean element) {
        for (int p = 1; p <= 4; p++) {
            ConstrainedCoder enough = Calls.loops(1 << p);
            ConstrainedCoder tooFew = Calls.loops((1 << p) - 1);
            check.is("2^" + p + " loops", element ? enough.eigenvectorElement(p, 0) : enough.eigenvectorBound(p), 1);
            check.is("one less", element ? tooFew.eigenvectorElement(p, 0) : tooFew.eigenvectorBound(p), -5);
        }
        if (element) {
            Effects.asks(check, "eigenvectorElement(1, 0)", x -> x.eigenvectorElement(1, 0));
        } else {
            Effects.asks(check, "eigenvectorBound(2)", x -> x.eigenvectorBound(2));
        }
    }

    private static void elementOfWrongP(Check check) {
        for (int p : Calls.outside(1, 4)) {
            Effects.refusedEverywhere(check, "p " + p, x -> x.eigenvectorElement(p, 0), -3);
            Effects.refusedEverywhere(check, "p " + p + ", no such state", x -> x.eigenvectorElement(p, 16), -3);
        }
        for (int p : new int[] {32, 33, 34, 36, -31, -28}) {
            Effects.refused(check, Scene.FULL, "2^p wraps around", x -> x.eigenvectorElement(p, 0), -3);
        }
    }

    private static void elementOfNoSuchState(Check check) {
        for (int state : Calls.outside(0, 15)) {
            Effects.refusedEverywhere(check, "state " + state, x -> x.eigenvectorElement(1, state), -1);
            Effects.refusedEverywhere(check, "state " + state + ", no vector", x -> x.eigenvectorElement(4, state), -1);
        }
        Effects.refused(check, Scene.WORKING, "state 3 of 3", x -> x.eigenvectorElement(1, 3), -1);
        Effects.refused(check, Scene.NEW, "without states", x -> x.eigenvectorElement(1, 0), -1);
    }

    private static void elementOfNoVector(Check check) {
        for (int p = 1; p <= 4; p++) {
            int number = p;
            Effects.refused(check, Scene.DEAD_END, "p " + p, x -> x.eigenvectorElement(number, 0), -5);
            Effects.refused(check, Scene.DEAD_END, "p " + p, x -> x.eigenvectorElement(number, 1), -5);
            check.is("one edge less than 2^p", Calls.loops((1 << p) - 1).eigenvectorElement(p, 0), -5);
        }
        check.is("a bound of 33", tight(33).eigenvectorElement(1, 0), -5);
        check.is("a zero is an element", Calls.graph(1, 2, 0, 0, 0, 0, 1, 0).eigenvectorElement(1, 1), 0);
    }

    /**
     * A strongly connected graph of growth rate 2 whose eigenvector is 2^n, .., 4, 2, 1, or 33 with all of these for
     * n = 5; for p = 1 only its multiples are approximate eigenvectors, so the bound is its greatest number.
     */
    static ConstrainedCoder tight(int greatest) {
        ConstrainedCoder x = Calls.states(1, 1);
        int half = greatest == 33 ? 32 : greatest;
        int state = 0;
        for (int weight = half; weight > 1; weight /= 2) {
            int next = x.addState();
            x.addEdge(next, 0, state);
            state = next;
        }
        for (int s = 1; s <= state; s++) {
            x.addEdge(0, 0, s);
        }
        if (greatest == 33) {
            int top = x.addState();
            x.addEdge(0, 0, top);
            x.addEdge(top, 0, 0);
            x.addEdge(top, 0, 0);
            x.addEdge(top, 0, state - 1);
        } else {
            x.addEdge(0, 0, 0);
            x.addEdge(0, 0, state);
        }
        return x;
    }

    private static void boundsFromOneToThirtyTwo(Check check) {
        for (int bound = 1; bound <= 32; bound *= 2) {
            check.is("eigenvectorBound(1)", tight(bound).eigenvectorBound(1), bound);
            check.is("the greatest element", tight(bound).eigenvectorElement(1, 0), bound);
            check.is("the least element", tight(bound).eigenvectorElement(1, tight(bound).stateCount() - 1), 1);
        }
    }

    private static void boundOfWrongP(Check check) {
        for (int p : Calls.outside(1, 4)) {
            Effects.refusedEverywhere(check, "eigenvectorBound(" + p + ")", x -> x.eigenvectorBound(p), -3);
        }
        for (int p : new int[] {32, 33, 34, 36, -31, -28}) {
            Effects.refused(check, Scene.FULL, "2^p wraps around", x -> x.eigenvectorBound(p), -3);
        }
    }

    private static void boundOfNoVector(Check check) {
        for (int p = 1; p <= 4; p++) {
            int number = p;
            Effects.refused(check, Scene.NEW, "without states", x -> x.eigenvectorBound(number), -5);
            Effects.refused(check, Scene.DEAD_END, "p " + p, x -> x.eigenvectorBound(number), -5);
            check.is("one edge less than 2^p", Calls.loops((1 << p) - 1).eigenvectorBound(p), -5);
        }
        check.is("a bound of 33", tight(33).eigenvectorBound(1), -5);
        check.is("a bound of 64", tight(64).eigenvectorBound(1), -5);
    }
}
