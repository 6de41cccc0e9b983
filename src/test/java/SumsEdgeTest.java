// The boundary cases of promises 19 and 23 to 26: sums over the result and over the words. Each
// sentence of the document that names one has a test, on both sides of the boundary.
public final class SumsEdgeTest extends Checks {
    private static final int MOST_COUNTS = 12 * 50;

    /** Twelve words of the greatest count, each of the same letters. */
    private static TokenSuite fullWords(String letters) {
        TokenSuite suite = new TokenSuite();
        for (int w = 0; w < MOST_WORDS; w++) {
            add(suite, 50, letters);
        }
        return suite;
    }

    private static void costOfResult() {
        TokenSuite suite = new TokenSuite();
        due("new", suite.cost(), 0);
        suite.type(0);
        due("typed, not split", suite.cost(), 0);
        suite.split(0);
        due("one letter", suite.cost(), 20);
        suite.wipe();
        due("wiped, not split again", suite.cost(), 20);
        suite.split(0);
        due("empty result", suite.cost(), 0);
        retype(suite, "000000000000");
        suite.split(0);
        suite.price(0, 99);
        due("twelve of the greatest price", suite.cost(), 12 * 99);
        suite.price(0, 1);
        due("twelve of the least price", suite.cost(), 12);
    }

    private static void costAsPricesAreNow() {
        TokenSuite suite = nested();
        retype(suite, "01201");
        suite.split(0);
        due("as at first", suite.cost(), 50);
        suite.price(6, 1);
        due("one changed", suite.cost(), 26);
        suite.price(7, 99);
        due("both changed", suite.cost(), 100);
        suite.price(7, 100);
        due("a refused price", suite.cost(), 100);
        suite.price(0, 99);
        due("the price of a token that is not in the result", suite.cost(), 100);
    }

    private static void costOfTokensThatThereStillAre() {
        TokenSuite suite = nested();
        retype(suite, "012015");
        suite.split(0);
        due("all of 7 6 5", suite.cost(), 25 + 25 + 20);
        suite.unlearn();
        due("7 is forgotten", suite.cost(), 25 + 20);
        suite.unlearn();
        due("6 is forgotten", suite.cost(), 20);
        suite.unlearn();
        due("letters can't be", suite.cost(), 20);
        due("the result is as it was", result(suite), "7 6 5");
    }

    private static void costOfTheLastToken() {
        TokenSuite suite = allLearned();
        retype(suite, spelled(suite, 19));
        suite.split(0);
        due("the result is the last token", result(suite), "19");
        due("it is there", suite.cost(), 25);
        suite.unlearn();
        due("it is forgotten", suite.cost(), 0);
    }

    private static void forgottenCountsAgain() {
        TokenSuite suite = nested();
        retype(suite, "01201");
        suite.split(0);
        suite.unlearn();
        suite.unlearn();
        due("7 6, both forgotten", suite.cost(), 0);
        suite.dropWord();
        add(suite, 2, "55");
        due("another 6", suite.learn(), 6);
        due("6 counts again", suite.cost(), 25);
        add(suite, 2, "44");
        due("another 7", suite.learn(), 7);
        due("both count again", suite.cost(), 50);
        suite.unlearn();
        due("7 is forgotten again", suite.cost(), 25);
    }

    private static void countsWithThePriceThereIsNow() {
        TokenSuite suite = doubled();
        retype(suite, "00");
        suite.split(0);
        suite.price(6, 99);
        due("with the price set", suite.cost(), 99);
        suite.unlearn();
        due("forgotten", suite.cost(), 0);
        suite.learn();
        due("learned anew, with the first price", suite.cost(), 25);
        suite.price(6, 1);
        due("with the price set anew", suite.cost(), 1);
    }

    private static void loadBadWay() {
        TokenSuite suite = competing();
        add(suite, 3, "012");
        for (int way : outside(0, 2)) {
            due("load(" + way + ")", suite.load(way), BAD);
        }
        suite.price(6, 99);
        suite.price(7, 99);
        due("least way", suite.load(0), 5 + 4 + 3 * 2);
        due("greatest way", suite.load(2), 5 * 2 + 4 * 2 + 3 * 3);
        due("without words too", new TokenSuite().load(3), BAD);
    }

    private static void loadOfWords() {
        TokenSuite suite = new TokenSuite();
        for (int way = 0; way < 3; way++) {
            due("no words, way " + way, suite.load(way), 0);
        }
        add(suite, 50, "");
        for (int way = 0; way < 3; way++) {
            due("an empty word, way " + way, suite.load(way), 0);
        }
        add(suite, 1, "0");
        for (int way = 0; way < 3; way++) {
            due("one letter, way " + way, suite.load(way), 1);
        }
        TokenSuite most = fullWords("01234501");
        for (int way = 0; way < 3; way++) {
            due("the greatest, way " + way, most.load(way), MOST_COUNTS * 8);
        }
        TokenSuite whole = fullWords("00000000");
        learn(whole, 3);
        for (int way = 0; way < 3; way++) {
            due("one token each, way " + way, whole.load(way), MOST_COUNTS);
        }
    }

    private static void loadWayAsInSplit() {
        // 6 = 1 2, 7 = 0 1, 8 = 2 3: the three ways differ on 0 1 2 3 once 8 is dear.
        TokenSuite suite = new TokenSuite();
        add(suite, 9, "12");
        add(suite, 8, "01");
        add(suite, 7, "23");
        learn(suite, 3);
        dropWords(suite, 3);
        add(suite, 10, "0123");
        suite.price(6, 99);
        suite.price(7, 99);
        suite.price(8, 99);
        retype(suite, "0123");
        int[] sizes = {3, 2, 4};
        for (int way = 0; way < 3; way++) {
            due("load, way " + way, suite.load(way), 10 * sizes[way]);
            due("split, way " + way, suite.split(way), sizes[way]);
        }
    }

    private static void expenseOfWords() {
        TokenSuite suite = new TokenSuite();
        due("no words", suite.expense(), 0);
        add(suite, 50, "");
        due("an empty word", suite.expense(), 0);
        add(suite, 1, "0");
        due("one letter", suite.expense(), 20);
        add(suite, 50, "0");
        due("the greatest count", suite.expense(), 51 * 20);
        TokenSuite most = fullWords("55555555");
        most.price(5, 99);
        due("the greatest of all", most.expense(), MOST_COUNTS * 8 * 99);
        most.price(5, 1);
        due("the least price", most.expense(), MOST_COUNTS * 8);
    }

    private static void expenseByCheapestSplits() {
        TokenSuite suite = doubled();
        suite.price(6, 39);
        due("the token is one less", suite.expense(), 2 * 39);
        suite.price(6, 40);
        due("the token is as much", suite.expense(), 2 * 40);
        suite.price(6, 41);
        due("the token is one more", suite.expense(), 2 * 40);
        suite.price(6, 1);
        suite.unlearn();
        due("the token is forgotten", suite.expense(), 2 * 40);
    }

    private static void worthBadToken() {
        TokenSuite none = new TokenSuite();
        for (int x : outside(0, 5)) {
            due("worth(" + x + ") with none learned", none.worth(x), BAD);
        }
        TokenSuite all = allLearned();
        for (int x : outside(0, 19)) {
            due("worth(" + x + ") with all learned", all.worth(x), BAD);
        }
        due("the last one", all.worth(19) >= 0 ? 1 : 0, 1);
        all.unlearn();
        due("a forgotten one", all.worth(19), BAD);
        due("the last one then", all.worth(18) >= 0 ? 1 : 0, 1);
    }

    private static void worthOfLetter() {
        TokenSuite suite = nested();
        for (int x = 0; x < 6; x++) {
            due("letter " + x, suite.worth(x), NONE);
            due("letter " + x + " with none learned", new TokenSuite().worth(x), NONE);
        }
        due("the first learned one", suite.worth(6), 0);
    }

    private static void worthByHowMuchGreater() {
        TokenSuite suite = doubled();
        int[] prices = {1, 39, 40, 41, 99};
        int[] worths = {78, 2, 0, 0, 0};
        for (int i = 0; i < prices.length; i++) {
            suite.price(6, prices[i]);
            due("at price " + prices[i], suite.worth(6), worths[i]);
        }
        suite.price(6, 1);
        suite.dropWord();
        due("no words", suite.worth(6), 0);
        add(suite, 50, "");
        add(suite, 50, "0");
        add(suite, 50, "11");
        due("words without it", suite.worth(6), 0);

        TokenSuite most = fullWords("00000000");
        learn(most, 3);
        most.price(6, 99);
        most.price(7, 99);
        most.price(0, 99);
        most.price(8, 1);
        due("twice 7 in its place", most.worth(8), MOST_COUNTS * (2 * 99 - 1));
        due("of no use beside 8", most.worth(7), 0);
    }

    private static void worthLeavesOthersUsable() {
        TokenSuite suite = nested();
        suite.price(6, 1);
        due("7 is used without its left one 6", suite.worth(6), 2 * (25 - 21));
        suite.price(7, 21);
        due("7 is as much as 6 2", suite.worth(6), 0);
        due("6 2 is as much as 7", suite.worth(7), 0);
        suite.price(7, 20);
        due("7 is one less than 6 2", suite.worth(7), 2);
    }

    private static void resultSums() {
        sentence("19", "The sum of the prices", SumsEdgeTest::costOfResult);
        sentence("19", "as they are now", SumsEdgeTest::costAsPricesAreNow);
        sentence("19", "of the tokens of the result that there still are",
                SumsEdgeTest::costOfTokensThatThereStillAre);
        sentence("19", "of the tokens of the result that there still are", SumsEdgeTest::costOfTheLastToken);
        sentence("26", "counts again [..] once another one has its number", SumsEdgeTest::forgottenCountsAgain);
        sentence("26", "with the price there is now", SumsEdgeTest::countsWithThePriceThereIsNow);
    }

    private static void wordSums() {
        sentence("23", "way is not 0 .. 2: BAD", SumsEdgeTest::loadBadWay);
        sentence("23", "The sum, over all words, of their counts times", SumsEdgeTest::loadOfWords);
        sentence("23", "that way (as in split) makes of them", SumsEdgeTest::loadWayAsInSplit);
        sentence("24", "The sum, over all words, of their counts times", SumsEdgeTest::expenseOfWords);
        sentence("24", "the prices of their cheapest splits", SumsEdgeTest::expenseByCheapestSplits);
        sentence("25", "x is not good: BAD", SumsEdgeTest::worthBadToken);
        sentence("25", "it is a letter: NONE", SumsEdgeTest::worthOfLetter);
        sentence("25", "By how much expense would be greater", SumsEdgeTest::worthByHowMuchGreater);
        sentence("25", "if the learned token x could not be used in splits",
                SumsEdgeTest::worthLeavesOthersUsable);
    }

    public static void main(String[] args) {
        resultSums();
        wordSums();
        end();
    }
}
