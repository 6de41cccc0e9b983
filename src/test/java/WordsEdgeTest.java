// The boundary cases of promises 1 to 7: words, and what is learned from them. Each sentence of the
// document that names one has a test, on both sides of the boundary.
public final class WordsEdgeTest extends Checks {
    private static void newHasNoWords() {
        TokenSuite suite = new TokenSuite();
        due("dropWord", suite.dropWord(), NONE);
        due("spell", suite.spell(0), NONE);
        for (int way = 0; way < 3; way++) {
            due("load", suite.load(way), 0);
        }
        due("expense", suite.expense(), 0);
        due("learn", suite.learn(), NONE);
        due("first word", suite.word(1), 1);
        due("dropWord of one", suite.dropWord(), 0);
    }

    private static void newHasNothingLearned() {
        TokenSuite suite = new TokenSuite();
        due("tokens", suite.tokens(), 6);
        due("unlearn", suite.unlearn(), NONE);
        due("length of the last letter", suite.length(5), 1);
        due("length of the first learned one", suite.length(6), BAD);
        add(suite, 2, "33");
        suite.learn();
        due("tokens with one", suite.tokens(), 7);
        due("length with one", suite.length(6), 2);
        due("length of the next one", suite.length(7), BAD);
        due("unlearn with one", suite.unlearn(), 6);
        due("tokens of another object", new TokenSuite().tokens(), 6);
    }

    private static void newTextAndResultAreEmpty() {
        TokenSuite suite = new TokenSuite();
        due("size", suite.size(), 0);
        due("at", suite.at(0), NONE);
        due("cost", suite.cost(), 0);
        due("wipe", suite.wipe(), 0);
        due("ways", suite.ways(), 1);
        due("ranked", suite.ranked(0), 0);
        due("rankedAt", suite.rankedAt(0, 0), NONE);
        due("split", suite.split(0), 0);
        suite.type(0);
        suite.split(0);
        due("size of one", suite.size(), 1);
        due("wipe of one", suite.wipe(), 1);
    }

    private static void firstPriceOfLetters() {
        TokenSuite suite = new TokenSuite();
        for (int x = 0; x < 6; x++) {
            due("price of " + x, suite.price(x, 1), 20);
            due("new price of " + x, suite.price(x, 1), 1);
        }
    }

    private static void firstPriceOfLearnedTokens() {
        TokenSuite suite = allLearned();
        for (int x = 6; x < MOST_TOKENS; x++) {
            due("price of " + x, suite.price(x, 1), 25);
            due("new price of " + x, suite.price(x, 1), 1);
        }
    }

    private static void sixLetters() {
        TokenSuite suite = new TokenSuite();
        suite.word(1);
        for (int letter = 0; letter < 6; letter++) {
            due("spell " + letter, suite.spell(letter), letter + 1);
            due("type " + letter, suite.type(letter), letter + 1);
        }
        suite.split(0);
        due("they are the tokens 0 .. 5", result(suite), "0 1 2 3 4 5");
        due("spell a seventh", suite.spell(6), BAD);
        due("type a seventh", suite.type(6), BAD);
        due("spell one below", suite.spell(-1), BAD);
        due("type one below", suite.type(-1), BAD);
    }

    private static void wordIsAddedEmpty() {
        TokenSuite suite = new TokenSuite();
        add(suite, 50, "01010101");
        suite.dropWord();
        due("in the place of a full word", suite.word(50), 1);
        due("load", suite.load(0), 0);
        due("expense", suite.expense(), 0);
        due("frequency", suite.frequency(0, 1), 0);
        due("its first letter", suite.spell(3), 1);
        due("load of one letter", suite.load(0), 50);
    }

    private static void countOutsideItsBounds() {
        TokenSuite suite = new TokenSuite();
        for (int count : outside(1, 50)) {
            due("word(" + count + ")", suite.word(count), BAD);
        }
        due("no word yet", suite.dropWord(), NONE);
        due("least", suite.word(1), 1);
        suite.spell(0);
        due("load of the least", suite.load(0), 1);
        due("most", suite.word(50), 2);
        suite.spell(0);
        due("load of both", suite.load(0), 51);
    }

    private static void twelveWords() {
        TokenSuite suite = new TokenSuite();
        for (int i = 0; i < MOST_WORDS - 1; i++) {
            suite.word(1);
        }
        due("twelfth", suite.word(1), 12);
        suite.spell(5);
        due("thirteenth", suite.word(1), FULL);
        due("again", suite.word(50), FULL);
        due("the last word is the twelfth still", suite.spell(5), 2);
        due("with its count", suite.frequency(5, 5), 1);
        due("one less", suite.dropWord(), 11);
        due("room again", suite.word(1), 12);
        due("and full again", suite.word(1), FULL);
    }

    private static void wordTestsCountFirst() {
        TokenSuite suite = new TokenSuite();
        for (int i = 0; i < MOST_WORDS; i++) {
            suite.word(1);
        }
        due("bad and full, below", suite.word(0), BAD);
        due("bad and full, above", suite.word(51), BAD);
        due("full alone", suite.word(50), FULL);
    }

    private static void wordAnswersHowMany() {
        TokenSuite suite = new TokenSuite();
        for (int i = 1; i <= MOST_WORDS; i++) {
            due("word " + i, suite.word(i), i);
        }
    }

    private static void spellAppendsToTheLastWord() {
        TokenSuite suite = new TokenSuite();
        add(suite, 3, "0");
        add(suite, 5, "0");
        suite.spell(1);
        due("last word alone", suite.frequency(0, 1), 5);
        suite.spell(2);
        due("behind what it has", suite.frequency(1, 2), 5);
        due("not ahead of it", suite.frequency(2, 0), 0);
    }

    private static void spellBadLetter() {
        TokenSuite suite = nested();
        for (int letter : outside(0, 5)) {
            due("spell(" + letter + ")", suite.spell(letter), BAD);
        }
        due("a learned token is no letter", suite.spell(6), BAD);
        due("least", suite.spell(0), 4);
        due("greatest", suite.spell(5), 5);
    }

    private static void spellWithoutWord() {
        TokenSuite suite = new TokenSuite();
        due("new", suite.spell(0), NONE);
        suite.word(1);
        due("one word", suite.spell(0), 1);
        suite.dropWord();
        due("dropped", suite.spell(0), NONE);
    }

    private static void eightLetters() {
        TokenSuite suite = new TokenSuite();
        add(suite, 1, "1");
        add(suite, 1, "0000000");
        due("eighth", suite.spell(5), 8);
        due("ninth", suite.spell(5), FULL);
        due("no ninth is there", suite.frequency(5, 5), 0);
        due("load", suite.load(0), 9);
        suite.word(1);
        due("a new word has room", suite.spell(0), 1);
        suite.dropWord();
        due("the full word is the last again", suite.spell(0), FULL);
        suite.dropWord();
        due("the word before has room", suite.spell(0), 2);
    }

    private static void eightLettersInEachOfTwelveWords() {
        TokenSuite suite = new TokenSuite();
        for (int w = 0; w < MOST_WORDS; w++) {
            add(suite, 1, "0000000");
            due("eighth of word " + w, suite.spell(w % 6), 8);
            due("ninth of word " + w, suite.spell(w % 6), FULL);
        }
        for (int letter = 1; letter < 6; letter++) {
            due("words that end with " + letter, suite.frequency(0, letter), 2);
        }
        due("all letters", suite.load(0), 96);
    }

    private static void spellTestsInOrder() {
        TokenSuite suite = new TokenSuite();
        due("bad without a word, below", suite.spell(-1), BAD);
        due("bad without a word, above", suite.spell(6), BAD);
        add(suite, 1, "00000000");
        due("bad in a full word, below", suite.spell(-1), BAD);
        due("bad in a full word, above", suite.spell(6), BAD);
        due("full alone", suite.spell(5), FULL);
    }

    private static void spellAnswersHowMany() {
        TokenSuite suite = new TokenSuite();
        suite.word(1);
        for (int i = 1; i <= MOST_WORD_LETTERS; i++) {
            due("letter " + i, suite.spell(0), i);
        }
    }

    private static void dropsTheLastWord() {
        TokenSuite suite = new TokenSuite();
        add(suite, 3, "01");
        add(suite, 5, "23");
        suite.dropWord();
        due("the last", suite.frequency(2, 3), 0);
        due("the one before", suite.frequency(0, 1), 3);
    }

    private static void dropWithoutWord() {
        TokenSuite suite = new TokenSuite();
        due("new", suite.dropWord(), NONE);
        due("again", suite.dropWord(), NONE);
        due("the first word is number 1", suite.word(1), 1);
        due("one word", suite.dropWord(), 0);
        due("none again", suite.dropWord(), NONE);
    }

    private static void dropAnswersHowManyAreLeft() {
        TokenSuite suite = new TokenSuite();
        for (int i = 0; i < MOST_WORDS; i++) {
            suite.word(1);
        }
        for (int left = MOST_WORDS - 1; left >= 0; left--) {
            due("left", suite.dropWord(), left);
        }
    }

    private static String learnedFrom(int count, String letters, int otherCount, String otherLetters) {
        TokenSuite suite = new TokenSuite();
        add(suite, count, letters);
        add(suite, otherCount, otherLetters);
        suite.learn();
        return spelled(suite, 6);
    }

    private static void learnsTheGreatestFrequency() {
        due("one more", learnedFrom(2, "01", 3, "54"), "54");
        due("one less", learnedFrom(3, "54", 2, "01"), "54");
        due("greatest counts", learnedFrom(49, "01", 50, "54"), "54");
        due("by times in the word", learnedFrom(2, "01", 1, "54354254"), "54");
        due("the last pair of all", learnedFrom(2, "00", 3, "55"), "55");
        due("the first pair of all", learnedFrom(3, "00", 2, "55"), "00");
    }

    private static void learnsTheLeastFirstToken() {
        due("least first", learnedFrom(2, "05", 2, "10"), "05");
        due("least first comes last", learnedFrom(2, "10", 2, "05"), "05");
        due("first ahead of second", learnedFrom(2, "50", 2, "45"), "45");

        // 6 = 0 0; then 5 6 and 6 1 are as frequent.
        TokenSuite suite = new TokenSuite();
        add(suite, 9, "00");
        suite.learn();
        suite.dropWord();
        add(suite, 2, "001");
        add(suite, 2, "500");
        suite.learn();
        due("a letter ahead of a learned token", suite.left(7), 5);
    }

    private static void learnsTheLeastSecondToken() {
        due("least second", learnedFrom(2, "21", 2, "22"), "21");
        due("least second comes last", learnedFrom(2, "22", 2, "21"), "21");
        due("ends of the letters", learnedFrom(2, "55", 2, "50"), "50");

        TokenSuite suite = new TokenSuite();
        add(suite, 9, "00");
        suite.learn();
        suite.dropWord();
        add(suite, 2, "200");
        add(suite, 2, "25");
        suite.learn();
        due("a letter ahead of a learned token", suite.right(7), 5);
    }

    private static int learnAnswer(int count, String... words) {
        TokenSuite suite = new TokenSuite();
        for (String letters : words) {
            add(suite, count, letters);
        }
        return suite.learn();
    }

    private static void frequencyOfTwoIsNeeded() {
        due("no words", learnAnswer(1), NONE);
        due("empty word", learnAnswer(50, ""), NONE);
        due("one letter", learnAnswer(50, "0", "0"), NONE);
        due("once", learnAnswer(1, "01"), NONE);
        due("two pairs, once each", learnAnswer(1, "01", "10"), NONE);
        due("eight letters, once each", learnAnswer(1, "01234502"), NONE);
        due("count 2", learnAnswer(2, "01"), 6);
        due("two words", learnAnswer(1, "01", "01"), 6);
        due("twice in a word", learnAnswer(1, "0101"), 6);
        due("twice, overlapping", learnAnswer(1, "000"), 6);
        due("once, the same letter", learnAnswer(1, "00"), NONE);

        TokenSuite suite = new TokenSuite();
        add(suite, 1, "000");
        suite.learn();
        due("once in the merged word", suite.learn(), NONE);
        suite.spell(0);
        due("6 6 once", suite.learn(), NONE);
        suite.spell(0);
        suite.spell(0);
        due("6 6 twice", suite.learn(), 7);
    }

    private static void fourteenLearned() {
        TokenSuite suite = oneShort();
        due("fourteenth", suite.learn(), 19);
        add(suite, 3, "55");
        due("fifteenth", suite.learn(), FULL);
        due("tokens", suite.tokens(), 20);
        due("no token 20", suite.left(20), BAD);
        suite.unlearn();
        due("room again", suite.learn(), 19);
        due("full again", suite.learn(), FULL);
    }

    private static void learnTestsFrequencyFirst() {
        TokenSuite suite = oneShort();
        suite.learn();
        due("nothing to learn, and full", suite.learn(), NONE);
        add(suite, 1, "55");
        due("frequency 1, and full", suite.learn(), NONE);
        add(suite, 1, "55");
        due("frequency 2, and full", suite.learn(), FULL);
    }

    private static void learnAnswersTheNumber() {
        TokenSuite suite = oneShort();
        for (int i = 0; i < 13; i++) {
            suite.unlearn();
        }
        for (int number = 6; number < MOST_TOKENS; number++) {
            due("number", suite.learn(), number);
        }
    }

    private static void learnedStays() {
        TokenSuite suite = nested();
        suite.price(7, 3);
        suite.dropWord();
        due("tokens", suite.tokens(), 8);
        due("spells", spelled(suite, 7), "012");
        due("price", suite.price(7, 3), 3);
        due("splits", splitOf(suite, "012", 0), "7");
        add(suite, 1, "543");
        due("with other words", splitOf(suite, "012", 1), "7");
    }

    private static void unlearnsTheLast() {
        TokenSuite suite = nested();
        suite.unlearn();
        due("the last", suite.length(7), BAD);
        due("the one before", spelled(suite, 6), "01");
        due("merging", splitOf(suite, "012", 0), "6 2");
    }

    private static void unlearnWithNoneLearned() {
        TokenSuite suite = new TokenSuite();
        due("new", suite.unlearn(), NONE);
        due("letters stay", suite.tokens(), 6);
        add(suite, 2, "01");
        suite.learn();
        due("one", suite.unlearn(), 6);
        due("none again", suite.unlearn(), NONE);
        due("the last letter", suite.length(5), 1);
    }

    private static void unlearnAnswersHowManyTokens() {
        TokenSuite suite = allLearned();
        for (int left = MOST_TOKENS - 1; left >= 6; left--) {
            due("tokens", suite.unlearn(), left);
            due("tokens asked", suite.tokens(), left);
        }
    }

    private static void frequencyBad() {
        TokenSuite suite = new TokenSuite();
        for (int x : outside(0, 5)) {
            due("frequency(" + x + ", 0)", suite.frequency(x, 0), BAD);
            due("frequency(0, " + x + ")", suite.frequency(0, x), BAD);
        }
        due("both", suite.frequency(-1, 6), BAD);
        due("least", suite.frequency(0, 0), 0);
        due("greatest letter", suite.frequency(5, 5), 0);
        due("not learned yet", suite.frequency(6, 5), BAD);
        due("not learned yet", suite.frequency(5, 6), BAD);
        add(suite, 2, "4444");
        suite.learn();
        due("learned", suite.frequency(6, 6), 2);
        suite.unlearn();
        due("forgotten", suite.frequency(6, 6), BAD);
        due("forgotten, second alone", suite.frequency(4, 6), BAD);
    }

    private static void frequencyBadWithAllLearned() {
        TokenSuite suite = allLearned();
        for (int x : outside(0, 19)) {
            due("frequency(" + x + ", 5)", suite.frequency(x, 5), BAD);
            due("frequency(5, " + x + ")", suite.frequency(5, x), BAD);
        }
        due("greatest", suite.frequency(19, 19), 0);
        due("letters", suite.frequency(5, 5), 15);
    }

    private static void pairsOverlap() {
        TokenSuite suite = new TokenSuite();
        suite.word(1);
        for (int letters = 1; letters <= MOST_WORD_LETTERS; letters++) {
            suite.spell(3);
            due("in " + letters + " letters", suite.frequency(3, 3), letters - 1);
        }
        TokenSuite merged = new TokenSuite();
        add(merged, 1, "000000");
        merged.learn();
        due("learned ones", merged.frequency(6, 6), 2);
        due("not inside of them", merged.frequency(0, 0), 0);
    }

    private static void frequencyIsASumOverWords() {
        TokenSuite suite = new TokenSuite();
        due("no words", suite.frequency(0, 1), 0);
        add(suite, 50, "");
        add(suite, 50, "0");
        add(suite, 50, "1");
        due("not from one word to the next", suite.frequency(0, 1), 0);
        add(suite, 1, "01");
        due("least count", suite.frequency(0, 1), 1);
        add(suite, 50, "01");
        due("greatest count", suite.frequency(0, 1), 51);
        due("the other way round", suite.frequency(1, 0), 0);

        TokenSuite most = new TokenSuite();
        for (int w = 0; w < MOST_WORDS; w++) {
            add(most, 50, "55555555");
        }
        due("greatest of all", most.frequency(5, 5), 12 * 50 * 7);
    }

    private static void terms() {
        sentence("Terms", "There are six LETTERS 0 .. 5", WordsEdgeTest::sixLetters);
        sentence("Terms", "at most twelve rows of at most eight letters",
                WordsEdgeTest::eightLettersInEachOfTwelveWords);
        sentence("Terms", "a PRICE 1 .. 99: 20 for letters at first", WordsEdgeTest::firstPriceOfLetters);
        sentence("Terms", "25 for a learned token at first", WordsEdgeTest::firstPriceOfLearnedTokens);
        sentence("Terms", "both are empty at first", WordsEdgeTest::newTextAndResultAreEmpty);
        sentence("Terms", "at all places, also if these overlap", WordsEdgeTest::pairsOverlap);
        sentence("Terms", "the sum, over all words, of how often it occurs",
                WordsEdgeTest::frequencyIsASumOverWords);
    }

    private static void newObjectAndWords() {
        sentence("1", "no words", WordsEdgeTest::newHasNoWords);
        sentence("1", "nothing learned", WordsEdgeTest::newHasNothingLearned);
        sentence("2", "Adds a word without letters", WordsEdgeTest::wordIsAddedEmpty);
        sentence("2", "count is not 1 .. 50: BAD", WordsEdgeTest::countOutsideItsBounds);
        sentence("2", "there are twelve words: FULL", WordsEdgeTest::twelveWords);
        sentence("2", "the tests are made in the order named", WordsEdgeTest::wordTestsCountFirst);
        sentence("2", "Else answers how many words there are then", WordsEdgeTest::wordAnswersHowMany);
        sentence("3", "Appends a letter to the last word", WordsEdgeTest::spellAppendsToTheLastWord);
        sentence("3", "letter is not good: BAD", WordsEdgeTest::spellBadLetter);
        sentence("3", "there is no word: NONE", WordsEdgeTest::spellWithoutWord);
        sentence("3", "it has eight letters: FULL", WordsEdgeTest::eightLetters);
        sentence("3", "the tests are made in the order named", WordsEdgeTest::spellTestsInOrder);
        sentence("3", "Else answers how many it has then", WordsEdgeTest::spellAnswersHowMany);
        sentence("4", "Takes the last word away", WordsEdgeTest::dropsTheLastWord);
        sentence("4", "There is none: NONE", WordsEdgeTest::dropWithoutWord);
        sentence("4", "Else answers how many are left", WordsEdgeTest::dropAnswersHowManyAreLeft);
    }

    private static void learning() {
        sentence("5", "the pair with the greatest frequency", WordsEdgeTest::learnsTheGreatestFrequency);
        sentence("5", "of several the one with the least first token",
                WordsEdgeTest::learnsTheLeastFirstToken);
        sentence("5", "of those with the least second one", WordsEdgeTest::learnsTheLeastSecondToken);
        sentence("5", "No pair has a frequency of 2 or more: NONE", WordsEdgeTest::frequencyOfTwoIsNeeded);
        sentence("5", "fourteen are learned: FULL", WordsEdgeTest::fourteenLearned);
        sentence("5", "the tests are made in the order named", WordsEdgeTest::learnTestsFrequencyFirst);
        sentence("5", "Else answers the token's number", WordsEdgeTest::learnAnswersTheNumber);
        sentence("5", "Words may change later; what is learned stays", WordsEdgeTest::learnedStays);
        sentence("6", "Forgets the last learned token", WordsEdgeTest::unlearnsTheLast);
        sentence("6", "None is learned: NONE", WordsEdgeTest::unlearnWithNoneLearned);
        sentence("6", "Else answers how many tokens there are then",
                WordsEdgeTest::unlearnAnswersHowManyTokens);
        sentence("7", "x or y is not good: BAD", WordsEdgeTest::frequencyBad);
        sentence("7", "x or y is not good: BAD", WordsEdgeTest::frequencyBadWithAllLearned);
    }

    public static void main(String[] args) {
        terms();
        newObjectAndWords();
        learning();
        end();
    }
}
